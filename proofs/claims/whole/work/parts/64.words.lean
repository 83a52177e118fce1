/-! LAW -/
theorem log_eq {T : Row} {L b e : Nat} {M N : Mem} (hT : Tp T L M N) (n14 : N 0 14 = nI b) (n15 : N 0 15 = nI e) (hbe : b ≤ e) (heL : e ≤ L) : ∃ r, f_X10_isWordAt 108 111 103 0 N = some (r, N) ∧ (r = 0 ↔ ¬ (N 0 16 = 1 ∧ spP 0 T b e)) := by
  have hL := hT.1
  unfold f_X10_isWordAt f_X10_isWordAt_b0
  rw [if_pos rfl, f_X10_isWordAt_b10]
  by_cases q : N 0 16 = 1
  rotate_left
  · rw [if_neg q]
    exact ⟨0, rfl, ⟨fun _ z => q z.1, fun _ => rfl⟩⟩
  rw [if_pos q, n15, n14, show nI e - nI b = nI (e - b) from pk_sub hbe]
  have hlen : strL.getD 0 0 = 3 := by decide
  by_cases q2 : e - b = 3
  rotate_left
  · rw [if_neg (show ¬ nI (e - b) = (3 : Int32) from nI_ne (b := 3) (by omega) (by omega) q2)]
    exact ⟨0, rfl, ⟨fun _ z => q2 (by have := z.2.1; rw [hlen] at this; omega), fun _ => rfl⟩⟩
  rw [if_pos (show nI (e - b) = (3 : Int32) by rw [q2]; rfl)]
  rw [if_pos (ixb_t (show b < 96 by omega) (by omega)), ix_nI (show b < 2 ^ 31 by omega), (hT.2.2.2 (b) (by omega)).2.1]
  by_cases c0 : T (b) = 108
  rotate_left
  · rw [if_neg c0]
    exact ⟨0, rfl, ⟨fun _ z => c0 (z.2.2 0 (by rw [hlen]; omega)), fun _ => rfl⟩⟩
  rw [if_pos c0]
  rw [show nI b + (1 : Int32) = nI (b + 1) from by rw [i_lit, nI_add], if_pos (ixb_t (show b + 1 < 96 by omega) (by omega)), ix_nI (show b + 1 < 2 ^ 31 by omega), (hT.2.2.2 (b + 1) (by omega)).2.1]
  by_cases c1 : T (b + 1) = 111
  rotate_left
  · rw [if_neg c1]
    exact ⟨0, rfl, ⟨fun _ z => c1 (z.2.2 1 (by rw [hlen]; omega)), fun _ => rfl⟩⟩
  rw [if_pos c1]
  rw [show nI b + (2 : Int32) = nI (b + 2) from by rw [i_lit, nI_add], if_pos (ixb_t (show b + 2 < 96 by omega) (by omega)), ix_nI (show b + 2 < 2 ^ 31 by omega), (hT.2.2.2 (b + 2) (by omega)).2.1]
  by_cases c2 : T (b + 2) = 103
  rotate_left
  · rw [if_neg c2]
    exact ⟨0, rfl, ⟨fun _ z => c2 (z.2.2 2 (by rw [hlen]; omega)), fun _ => rfl⟩⟩
  rw [if_pos c2]
  rw [if_pos rfl, f_X10_isWordAt_b98]
  refine ⟨1, rfl, ⟨fun z => absurd z (by decide), fun z => absurd ⟨q, by rw [hlen]; omega, fun i hi => ?_⟩ z⟩⟩
  rw [hlen] at hi
  rcases (show i = 0 ∨ i = 1 ∨ i = 2 by omega) with rfl | rfl | rfl
  · exact c0
  · exact c1
  · exact c2
theorem needle_eq {T : Row} {L b e : Nat} {M N : Mem} (hT : Tp T L M N) (n14 : N 0 14 = nI b) (n15 : N 0 15 = nI e) (hbe : b ≤ e) (heL : e ≤ L) : ∃ r, f_X10_isLong 110 101 101 100 108 101 N = some (r, N) ∧ (r = 0 ↔ ¬ (N 0 16 = 1 ∧ spP 1 T b e)) := by
  have hL := hT.1
  unfold f_X10_isLong f_X10_isLong_b0
  rw [if_neg (by decide), f_X10_isLong_b11]
  by_cases q : N 0 16 = 1
  rotate_left
  · rw [if_neg q]
    exact ⟨0, rfl, ⟨fun _ z => q z.1, fun _ => rfl⟩⟩
  rw [if_pos q, n15, n14, show nI e - nI b = nI (e - b) from pk_sub hbe]
  have hlen : strL.getD 1 0 = 6 := by decide
  by_cases q2 : e - b = 6
  rotate_left
  · rw [if_neg (show ¬ nI (e - b) = (6 : Int32) from nI_ne (b := 6) (by omega) (by omega) q2)]
    exact ⟨0, rfl, ⟨fun _ z => q2 (by have := z.2.1; rw [hlen] at this; omega), fun _ => rfl⟩⟩
  rw [if_pos (show nI (e - b) = (6 : Int32) by rw [q2]; rfl)]
  rw [if_pos (ixb_t (show b < 96 by omega) (by omega)), ix_nI (show b < 2 ^ 31 by omega), (hT.2.2.2 (b) (by omega)).2.1]
  by_cases c0 : T (b) = 110
  rotate_left
  · rw [if_neg c0]
    exact ⟨0, rfl, ⟨fun _ z => c0 (z.2.2 0 (by rw [hlen]; omega)), fun _ => rfl⟩⟩
  rw [if_pos c0]
  rw [show nI b + (1 : Int32) = nI (b + 1) from by rw [i_lit, nI_add], if_pos (ixb_t (show b + 1 < 96 by omega) (by omega)), ix_nI (show b + 1 < 2 ^ 31 by omega), (hT.2.2.2 (b + 1) (by omega)).2.1]
  by_cases c1 : T (b + 1) = 101
  rotate_left
  · rw [if_neg c1]
    exact ⟨0, rfl, ⟨fun _ z => c1 (z.2.2 1 (by rw [hlen]; omega)), fun _ => rfl⟩⟩
  rw [if_pos c1]
  rw [show nI b + (2 : Int32) = nI (b + 2) from by rw [i_lit, nI_add], if_pos (ixb_t (show b + 2 < 96 by omega) (by omega)), ix_nI (show b + 2 < 2 ^ 31 by omega), (hT.2.2.2 (b + 2) (by omega)).2.1]
  by_cases c2 : T (b + 2) = 101
  rotate_left
  · rw [if_neg c2]
    exact ⟨0, rfl, ⟨fun _ z => c2 (z.2.2 2 (by rw [hlen]; omega)), fun _ => rfl⟩⟩
  rw [if_pos c2]
  rw [show nI b + (3 : Int32) = nI (b + 3) from by rw [i_lit, nI_add], if_pos (ixb_t (show b + 3 < 96 by omega) (by omega)), ix_nI (show b + 3 < 2 ^ 31 by omega), (hT.2.2.2 (b + 3) (by omega)).2.1]
  by_cases c3 : T (b + 3) = 100
  rotate_left
  · rw [if_neg c3]
    exact ⟨0, rfl, ⟨fun _ z => c3 (z.2.2 3 (by rw [hlen]; omega)), fun _ => rfl⟩⟩
  rw [if_pos c3]
  rw [show nI b + (4 : Int32) = nI (b + 4) from by rw [i_lit, nI_add], if_pos (ixb_t (show b + 4 < 96 by omega) (by omega)), ix_nI (show b + 4 < 2 ^ 31 by omega), (hT.2.2.2 (b + 4) (by omega)).2.1]
  by_cases c4 : T (b + 4) = 108
  rotate_left
  · rw [if_neg c4]
    exact ⟨0, rfl, ⟨fun _ z => c4 (z.2.2 4 (by rw [hlen]; omega)), fun _ => rfl⟩⟩
  rw [if_pos c4]
  rw [if_neg (show ¬ (101 : Int32) = 0 by decide)]
  rw [show nI b + (5 : Int32) = nI (b + 5) from by rw [i_lit, nI_add], if_pos (ixb_t (show b + 5 < 96 by omega) (by omega)), ix_nI (show b + 5 < 2 ^ 31 by omega), (hT.2.2.2 (b + 5) (by omega)).2.1]
  by_cases c5 : T (b + 5) = 101
  rotate_left
  · rw [if_neg c5]
    exact ⟨0, rfl, ⟨fun _ z => c5 (z.2.2 5 (by rw [hlen]; omega)), fun _ => rfl⟩⟩
  rw [if_pos c5]
  rw [f_X10_isLong_b131]
  refine ⟨1, rfl, ⟨fun z => absurd z (by decide), fun z => absurd ⟨q, by rw [hlen]; omega, fun i hi => ?_⟩ z⟩⟩
  rw [hlen] at hi
  rcases (show i = 0 ∨ i = 1 ∨ i = 2 ∨ i = 3 ∨ i = 4 ∨ i = 5 by omega) with rfl | rfl | rfl | rfl | rfl | rfl
  · exact c0
  · exact c1
  · exact c2
  · exact c3
  · exact c4
  · exact c5
theorem watch_eq {T : Row} {L b e : Nat} {M N : Mem} (hT : Tp T L M N) (n14 : N 0 14 = nI b) (n15 : N 0 15 = nI e) (hbe : b ≤ e) (heL : e ≤ L) : ∃ r, f_X10_isLong 119 97 116 99 104 0 N = some (r, N) ∧ (r = 0 ↔ ¬ (N 0 16 = 1 ∧ spP 2 T b e)) := by
  have hL := hT.1
  unfold f_X10_isLong f_X10_isLong_b0
  rw [if_pos rfl, f_X10_isLong_b11]
  by_cases q : N 0 16 = 1
  rotate_left
  · rw [if_neg q]
    exact ⟨0, rfl, ⟨fun _ z => q z.1, fun _ => rfl⟩⟩
  rw [if_pos q, n15, n14, show nI e - nI b = nI (e - b) from pk_sub hbe]
  have hlen : strL.getD 2 0 = 5 := by decide
  by_cases q2 : e - b = 5
  rotate_left
  · rw [if_neg (show ¬ nI (e - b) = (5 : Int32) from nI_ne (b := 5) (by omega) (by omega) q2)]
    exact ⟨0, rfl, ⟨fun _ z => q2 (by have := z.2.1; rw [hlen] at this; omega), fun _ => rfl⟩⟩
  rw [if_pos (show nI (e - b) = (5 : Int32) by rw [q2]; rfl)]
  rw [if_pos (ixb_t (show b < 96 by omega) (by omega)), ix_nI (show b < 2 ^ 31 by omega), (hT.2.2.2 (b) (by omega)).2.1]
  by_cases c0 : T (b) = 119
  rotate_left
  · rw [if_neg c0]
    exact ⟨0, rfl, ⟨fun _ z => c0 (z.2.2 0 (by rw [hlen]; omega)), fun _ => rfl⟩⟩
  rw [if_pos c0]
  rw [show nI b + (1 : Int32) = nI (b + 1) from by rw [i_lit, nI_add], if_pos (ixb_t (show b + 1 < 96 by omega) (by omega)), ix_nI (show b + 1 < 2 ^ 31 by omega), (hT.2.2.2 (b + 1) (by omega)).2.1]
  by_cases c1 : T (b + 1) = 97
  rotate_left
  · rw [if_neg c1]
    exact ⟨0, rfl, ⟨fun _ z => c1 (z.2.2 1 (by rw [hlen]; omega)), fun _ => rfl⟩⟩
  rw [if_pos c1]
  rw [show nI b + (2 : Int32) = nI (b + 2) from by rw [i_lit, nI_add], if_pos (ixb_t (show b + 2 < 96 by omega) (by omega)), ix_nI (show b + 2 < 2 ^ 31 by omega), (hT.2.2.2 (b + 2) (by omega)).2.1]
  by_cases c2 : T (b + 2) = 116
  rotate_left
  · rw [if_neg c2]
    exact ⟨0, rfl, ⟨fun _ z => c2 (z.2.2 2 (by rw [hlen]; omega)), fun _ => rfl⟩⟩
  rw [if_pos c2]
  rw [show nI b + (3 : Int32) = nI (b + 3) from by rw [i_lit, nI_add], if_pos (ixb_t (show b + 3 < 96 by omega) (by omega)), ix_nI (show b + 3 < 2 ^ 31 by omega), (hT.2.2.2 (b + 3) (by omega)).2.1]
  by_cases c3 : T (b + 3) = 99
  rotate_left
  · rw [if_neg c3]
    exact ⟨0, rfl, ⟨fun _ z => c3 (z.2.2 3 (by rw [hlen]; omega)), fun _ => rfl⟩⟩
  rw [if_pos c3]
  rw [show nI b + (4 : Int32) = nI (b + 4) from by rw [i_lit, nI_add], if_pos (ixb_t (show b + 4 < 96 by omega) (by omega)), ix_nI (show b + 4 < 2 ^ 31 by omega), (hT.2.2.2 (b + 4) (by omega)).2.1]
  by_cases c4 : T (b + 4) = 104
  rotate_left
  · rw [if_neg c4]
    exact ⟨0, rfl, ⟨fun _ z => c4 (z.2.2 4 (by rw [hlen]; omega)), fun _ => rfl⟩⟩
  rw [if_pos c4]
  rw [if_pos rfl, f_X10_isLong_b131]
  refine ⟨1, rfl, ⟨fun z => absurd z (by decide), fun z => absurd ⟨q, by rw [hlen]; omega, fun i hi => ?_⟩ z⟩⟩
  rw [hlen] at hi
  rcases (show i = 0 ∨ i = 1 ∨ i = 2 ∨ i = 3 ∨ i = 4 by omega) with rfl | rfl | rfl | rfl | rfl
  · exact c0
  · exact c1
  · exact c2
  · exact c3
  · exact c4
