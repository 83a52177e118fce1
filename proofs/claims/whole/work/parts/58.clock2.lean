/-! CLOCK: the settings -/
theorem allM_eq {N : Mem} {n t : Nat} (hs : SV (N 1) n t) (v day y : Int32) (hT : ∀ i, i < n → N 18 i = saysS (N 1) i ∧ N 19 i = lawS (N 1) i 2 0) (K : Int32 → Int32 → Int32 → Int32 → Int32 → Int32 → Int32 → Mem → Option (Int32 × Mem)) (x3 x4 x5 x6 : Int32) : ∃ z, f_X10_clock_b108 K FU v day x3 x4 x5 x6 y 1 0 N = f_X10_clock_b156 K v day x3 x4 x5 x6 y z N ∧ (z = 0 ↔ ¬ AH (N 1) v day y n 9) := by
  have key : ∀ (r fuel c : Nat), c + r = 9 → r < fuel → AH (N 1) v day y n c → ∃ z, f_X10_clock_b108 K fuel v day x3 x4 x5 x6 y 1 (nI c) N = f_X10_clock_b156 K v day x3 x4 x5 x6 y z N ∧ (z = 0 ↔ ¬ AH (N 1) v day y n 9) := by
    intro r
    induction r with
    | zero =>
      intro fuel c hc hf g
      obtain ⟨f, rfl⟩ : ∃ f, fuel = f + 1 := ⟨fuel - 1, by omega⟩
      have : c = 9 := by omega
      subst this
      rw [f_X10_clock_b108, if_pos (show (9 : Int32) ≤ nI 9 by decide)]
      exact ⟨1, rfl, ⟨fun w => absurd w (by decide), fun w => absurd g w⟩⟩
    | succ r ih =>
      intro fuel c hc hf g
      obtain ⟨f, rfl⟩ : ∃ f, fuel = f + 1 := ⟨fuel - 1, by omega⟩
      obtain ⟨z1, h1, h2⟩ := hasF_eq (c := c) hs v
      have stp : (hfP (N 1) v (nI c) n → ¬ ckH (N 1) v day y (nI c) n < ckL (N 1) v day y (nI c) n) → AH (N 1) v day y n (c + 1) := fun w c' hc' => by
        by_cases z : c' = c
        · subst z; exact w
        · exact g c' (by omega)
      rw [f_X10_clock_b108, if_neg (show ¬ (9 : Int32) ≤ nI c from nI_ge (a := c) (b := 9) (by omega) (by omega)), if_neg (show ¬ (1 : Int32) = 0 by decide), h1, bsm]
      dsimp only
      by_cases q : z1 = 0
      · rw [if_pos q, f_X10_clock_b143, f_X10_clock_b148, nI_1]
        exact ih f (c + 1) (by omega) (by omega) (stp (fun w => absurd w (h2.mp q)))
      · have hf' : hfP (N 1) v (nI c) n := Classical.not_not.mp (fun u => q (h2.mpr u))
        rw [if_neg q, wouldH_eq hs v day y hT, bsm]
        dsimp only
        by_cases q2 : ckH (N 1) v day y (nI c) n < ckL (N 1) v day y (nI c) n
        · have no : ¬ AH (N 1) v day y n 9 := fun w => w c (by omega) hf' q2
          rw [if_pos q2, if_pos rfl, f_X10_clock_b148, nI_1]
          cases f with
          | zero => omega
          | succ f =>
            rw [f_X10_clock_b108, if_pos (show (0 : Int32) = 0 from rfl)]
            exact ⟨0, by split <;> rfl, ⟨fun _ => no, fun _ => rfl⟩⟩
        · rw [if_neg q2, if_neg (show ¬ (1 : Int32) = 0 by decide), f_X10_clock_b143, f_X10_clock_b148, nI_1]
          exact ih f (c + 1) (by omega) (by omega) (stp (fun _ => q2))
  exact key 9 FU 0 (by omega) (by unfold FU; omega) (fun c hc => by omega)
theorem prepM_eq {N : Mem} {n t : Nat} (hs : SV (N 1) n t) (x1 x2 x3 : Int32) : ∃ N', f_X10_clock_b37 FU x1 x2 x3 0 N = f_X10_clock_b82 x1 x2 x3 N' ∧ (∀ i, i < n → N' 18 i = saysS (N 1) i ∧ N' 19 i = lawS (N 1) i 2 0) ∧ ∀ x, x ≠ 13 → x ≠ 14 → x ≠ 18 → x ≠ 19 → N' x = N x := by
  have hn := hs.2.1
  have key : ∀ (r fuel i : Nat) (N1 : Mem), i + r = n → r < fuel → (∀ j, j < i → N1 18 j = saysS (N 1) j ∧ N1 19 j = lawS (N 1) j 2 0) → (∀ x, x ≠ 13 → x ≠ 14 → x ≠ 18 → x ≠ 19 → N1 x = N x) → ∃ N', f_X10_clock_b37 fuel x1 x2 x3 (nI i) N1 = f_X10_clock_b82 x1 x2 x3 N' ∧ (∀ i, i < n → N' 18 i = saysS (N 1) i ∧ N' 19 i = lawS (N 1) i 2 0) ∧ ∀ x, x ≠ 13 → x ≠ 14 → x ≠ 18 → x ≠ 19 → N' x = N x := by
    intro r
    induction r with
    | zero =>
      intro fuel i N1 hi hf g1 g2
      obtain ⟨f, rfl⟩ : ∃ f, fuel = f + 1 := ⟨fuel - 1, by omega⟩
      have : i = n := by omega
      subst this
      rw [f_X10_clock_b37, g2 1 (by omega) (by omega) (by omega) (by omega), hs.1, if_pos (nI_le (Nat.le_refl _) (by omega))]
      exact ⟨N1, rfl, g1, g2⟩
    | succ r ih =>
      intro fuel i N1 hi hf g1 g2
      obtain ⟨f, rfl⟩ : ∃ f, fuel = f + 1 := ⟨fuel - 1, by omega⟩
      have i24 : ixb (nI i) 24 = true := ixb_t (by omega) (by omega)
      have e1 := g2 1 (by omega) (by omega) (by omega) (by omega)
      obtain ⟨N2, a1, a2⟩ := saysM (N := N1) (by rw [e1]; exact hs) (show i < n by omega)
      have e2 : mset N2 18 i (saysS (N 1) i) 1 = N 1 := by rw [mset_ne (by omega), a2 1 (by omega) (by omega), e1]
      obtain ⟨N3, b1, b2⟩ := byLaw_eq (N := mset N2 18 i (saysS (N 1) i)) (key := 2) (by rw [e2]; exact hs) (show i < n by omega) (by omega) 0
      rw [e1] at a1
      rw [e2] at b1
      have b1 : f_X10_byLaw (nI i) (2 : Int32) 0 (mset N2 18 i (saysS (N 1) i)) = some (lawS (N 1) i 2 0, N3) := b1
      rw [f_X10_clock_b37, e1, hs.1, if_neg (nI_ge (by omega) (by omega)), a1, bsm]
      dsimp only
      rw [if_pos i24, ix_nI (by omega), b1, bsm]
      dsimp only
      rw [if_pos i24, nI_1]
      refine ih f (i + 1) _ (by omega) (by omega) (fun j hj => ?_) (fun x y1 y2 y3 y4 => by rw [mset_ne y4, b2 x y1 y2, mset_ne y3, a2 x y1 y2]; exact g2 x y1 y2 y3 y4)
      rw [mset_ne (show (18 : Nat) ≠ 19 by omega), b2 18 (by omega) (by omega)]
      by_cases z : j = i
      · subst z
        rw [mset_at, mset_at]
        exact ⟨rfl, rfl⟩
      · rw [mset_k z, mset_k z, b2 19 (by omega) (by omega), mset_ne (by omega), a2 18 (by omega) (by omega), a2 19 (by omega) (by omega)]
        exact g1 j (by omega)
  exact key n FU 0 N (by omega) (by unfold FU; omega) (fun j hj => by omega) (fun _ _ _ _ _ => rfl)
theorem q_clock {M N : Mem} (h : Rel M N) (x1 x2 x3 : Int32) : Eqv (f_X9_clock x1 x2 x3 M) (f_X10_clock x1 x2 x3 N) := by
  obtain ⟨n, t, hv⟩ := RV.of (Or.inl rfl) h.1
  have hs := hv.sv
  have hn := hs.2.1
  unfold f_X9_clock f_X9_clock_b0 f_X10_clock f_X10_clock_b0
  rw [isBelowN x1 3 3 (by decide), isVoyage_eq, bsm, bsm]
  dsimp only
  simp only [b2i_eq0]
  by_cases hc : 0 ≤ x1.toInt ∧ x1.toInt < 3
  rotate_left
  · rw [if_pos hc, if_pos hc]
    exact ⟨_, M, N, rfl, rfl, h⟩
  rw [if_neg (nn hc), if_neg (nn hc), isBelowN x2 100 100 (by decide), isInN x2 0 99 0 99 (by decide) (by decide), bsm, bsm]
  dsimp only
  simp only [b2i_eq0]
  by_cases hd : 0 ≤ x2.toInt ∧ x2.toInt < 100
  rotate_left
  · rw [if_pos hd, if_pos (show ¬ (0 ≤ x2.toInt ∧ x2.toInt ≤ 99) by omega)]
    exact ⟨_, M, N, rfl, rfl, h⟩
  rw [if_neg (nn hd), if_neg (nn (show 0 ≤ x2.toInt ∧ x2.toInt ≤ 99 by omega)), isWithinN x3 0 2 0 2 (by decide) (by decide), isInN x3 0 2 0 2 (by decide) (by decide), bsm, bsm]
  dsimp only
  simp only [b2i_eq0]
  by_cases he : 0 ≤ x3.toInt ∧ x3.toInt ≤ 2
  rotate_left
  · rw [if_pos he, if_pos he]
    exact ⟨_, M, N, rfl, rfl, h⟩
  rw [if_neg (nn he), if_neg (nn he)]
  obtain ⟨M1, e1, a1, a2⟩ := prep_eq hv x1
  obtain ⟨N1, e2, b1, b2⟩ := prepM_eq hs x1 x2 x3
  rw [e1, e2, bsm]
  dsimp only
  have n1 : N1 1 = N 1 := b2 1 (by omega) (by omega) (by omega) (by omega)
  have hs1 : SV (N1 1) n t := by rw [n1]; exact hs
  have hT : ∀ i, i < n → N1 18 i = saysS (N1 1) i ∧ N1 19 i = lawS (N1 1) i 2 0 := by rw [n1]; exact b1
  have fin : ∀ (j : Nat) (y5 y6 : Int32) (M2 : Mem), j ≤ 101 → (∀ x, x ≠ 9 → x ≠ 12 → x ≠ 13 → M2 x = M1 x) → M2 9 0 = nI j → (j = 0 → M2 9 1 = (-1000000005 : Int32) ∧ M2 9 2 = (-1000000005 : Int32)) → (0 < j → M2 9 1 = y5 ∧ M2 9 2 = y6) → Eqv (if x3 = 0 then some (M2 9 0, M2) else if x3 = (1 : Int32) then some (M2 9 1, M2) else some (M2 9 2, M2)) (f_X10_clock_b188 x3 (nI j) y5 y6 N1) := by
    intro j y5 y6 M2 hj g1 g2 g3 g4
    have R : Rel M2 N1 := h.scr (fun x hx => by rw [g1 x (by omega) (by omega) (by omega)]; exact a1 x (by omega) (by omega) (by omega) (by omega)) ⟨fun x hx => b2 x (by omega) (by omega) (by omega) (by omega), by rw [b2 0 (by omega) (by omega) (by omega) (by omega)], by rw [b2 0 (by omega) (by omega) (by omega) (by omega)], by rw [b2 0 (by omega) (by omega) (by omega) (by omega)]⟩
    rw [f_X10_clock_b188, g2]
    by_cases q : x3 = 0
    · rw [if_pos q, if_pos q]
      exact ⟨_, M2, N1, rfl, rfl, R⟩
    rw [if_neg q, if_neg q]
    by_cases q0 : j = 0
    · obtain ⟨c1, c2⟩ := g3 q0
      rw [if_pos (show nI j = 0 from by rw [q0]; rfl), c1, c2]
      split <;> exact ⟨_, M2, N1, rfl, rfl, R⟩
    · obtain ⟨c1, c2⟩ := g4 (by omega)
      rw [if_neg (show ¬ nI j = 0 from nI_ne (b := 0) (by omega) (by omega) q0), c1, c2]
      by_cases q1 : x3 = 1
      · rw [if_pos q1, if_pos q1]
        exact ⟨_, M2, N1, rfl, rfl, R⟩
      · rw [if_neg q1, if_neg q1]
        exact ⟨_, M2, N1, rfl, rfl, R⟩
  have c50 : (50 : Int32).toInt = 50 := by decide
  have key : ∀ (r fuel k j : Nat) (y y5 y6 : Int32) (M2 : Mem), k + r = 101 → r < fuel → y.toInt = (k : Int) - 50 → j ≤ k → (∀ x, x ≠ 9 → x ≠ 12 → x ≠ 13 → M2 x = M1 x) → M2 9 7 = M1 9 7 → M2 9 0 = nI j → (j = 0 → M2 9 1 = (-1000000005 : Int32) ∧ M2 9 2 = (-1000000005 : Int32)) → (0 < j → (M2 9 1 = y5 ∧ M2 9 2 = y6) ∧ -50 ≤ y5.toInt) → Eqv ((f_X5_find_b21 fuel 48 x1 x2 y M2).bind fun q5 => if x3 = 0 then some ((q5.2 9 0), q5.2) else if x3 = (1 : Int32) then some ((q5.2 9 1), q5.2) else some ((q5.2 9 2), q5.2)) (f_X10_clock_b95 fuel x1 x2 x3 (nI j) y5 y6 y N1) := by
    intro r
    induction r with
    | zero =>
      intro fuel k j y y5 y6 M2 hk hf hy hj g1 g7 g2 g3 g4
      obtain ⟨f, rfl⟩ : ∃ f, fuel = f + 1 := ⟨fuel - 1, by omega⟩
      have q : (50 : Int32) < y := by rw [i_lt, c50, hy]; omega
      rw [f_X5_find_b21, f_X10_clock_b95, if_pos q, if_pos q, bsm]
      exact fin j y5 y6 M2 (by omega) g1 g2 g3 (fun w => (g4 w).1)
    | succ r ih =>
      intro fuel k j y y5 y6 M2 hk hf hy hj g1 g7 g2 g3 g4
      obtain ⟨f, rfl⟩ : ∃ f, fuel = f + 1 := ⟨fuel - 1, by omega⟩
      have q : ¬ (50 : Int32) < y := by rw [i_lt, c50, hy]; omega
      have hy1 : (y + 1).toInt = ((k + 1 : Nat) : Int) - 50 := by
        rw [i_add (by rw [show (1 : Int32).toInt = 1 from by decide]; omega) (by rw [show (1 : Int32).toInt = 1 from by decide]; omega), hy, show (1 : Int32).toInt = 1 from by decide]
        omega
      have hv2 : RV M2 (N 1) 48 n t := hv.cg (fun x hx => by rw [g1 x (by omega) (by omega) (by omega)]; exact a1 x (by omega) (by omega) (by omega) (by omega))
      have hP2 : PrC M2 (N 1) x1 n := by
        unfold PrC
        rw [g1 10 (by omega) (by omega) (by omega), g1 11 (by omega) (by omega) (by omega), g7]
        exact a2
      obtain ⟨z, M3, c1, c2, c3⟩ := allH_eq hv2 hP2 x2 y
      obtain ⟨z', d1, d2⟩ := allM_eq hs1 x1 x2 y hT (f_X10_clock_b95 f) x3 (nI j) y5 y6
      rw [n1] at d2
      have m9 := c3 9 (by omega) (by omega)
      rw [f_X5_find_b21, f_X10_clock_b95, if_neg q, if_neg q, c1, bsm, d1, f_X10_clock_b156]
      dsimp only
      by_cases q1 : z = 0
      · rw [if_pos q1, if_pos (d2.mpr (c2.mp q1)), f_X5_find_b78, f_X10_clock_b182]
        exact ih f (k + 1) j _ y5 y6 M3 (by omega) (by omega) hy1 (by omega) (fun x w1 w2 w3 => by rw [c3 x w2 w3]; exact g1 x w1 w2 w3) (by rw [m9]; exact g7) (by rw [m9]; exact g2) (by rw [m9]; exact g3) (by rw [m9]; exact g4)
      · rw [if_neg q1, if_neg (fun w => q1 (c2.mpr (d2.mp w))), mset_k (show (1 : Nat) ≠ 0 by omega), m9, g2, nI_1]
        have nx : ∀ s0 : Int32, -50 ≤ s0.toInt → Eqv ((f_X5_find_b69 (f_X5_find_b21 f) 48 x1 x2 y s0 (mset M3 9 0 (nI (j + 1)))).bind fun q5 => if x3 = 0 then some ((q5.2 9 0), q5.2) else if x3 = (1 : Int32) then some ((q5.2 9 1), q5.2) else some ((q5.2 9 2), q5.2)) (f_X10_clock_b173 (f_X10_clock_b95 f) x1 x2 x3 (nI j) y s0 N1) := by
          intro s0 hs0
          rw [f_X5_find_b69, f_X5_find_b78, f_X10_clock_b173, f_X10_clock_b182, nI_1]
          exact ih f (k + 1) (j + 1) _ s0 y _ (by omega) (by omega) hy1 (by omega) (fun x w1 w2 w3 => by rw [mset_ne w1, mset_ne w1, mset_ne w1, c3 x w2 w3]; exact g1 x w1 w2 w3) (by rw [mset_k (by omega), mset_k (by omega), mset_k (by omega), m9]; exact g7) (by rw [mset_k (by omega), mset_k (by omega), mset_at]) (fun w => by omega) (fun _ => ⟨⟨by rw [mset_k (by omega), mset_at], by rw [mset_at]⟩, hs0⟩)
        by_cases q0 : j = 0
        · rw [(g3 q0).1, if_pos rfl, if_pos (show nI j = 0 from by rw [q0]; rfl)]
          exact nx y (by omega)
        · obtain ⟨⟨w1, w2⟩, w3⟩ := g4 (by omega)
          rw [w1, if_neg (fun w => by rw [w] at w3; exact absurd w3 (by decide)), if_neg (show ¬ nI j = 0 from nI_ne (b := 0) (by omega) (by omega) q0)]
          exact nx y5 w3
  rw [f_X5_find, f_X5_find_b0, f_X10_clock_b82]
  exact key 101 FU 0 0 (-50) 0 0 _ (by omega) (by unfold FU; omega) (by decide) (by omega) (fun x w1 _ _ => by rw [mset_ne w1, mset_ne w1, mset_ne w1]) (by rw [mset_k (by omega), mset_k (by omega), mset_k (by omega)]) (by rw [mset_k (by omega), mset_k (by omega), mset_at]; rfl) (fun _ => ⟨by rw [mset_k (by omega), mset_at], by rw [mset_at]⟩) (fun w => by omega)
