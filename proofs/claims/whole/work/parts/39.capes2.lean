/-! CAPES: the calls -/
theorem vs_nI {S : Row} {c : Int32} {n : Nat} (hm : ∀ i, i < n → MkOk S i) : ∀ i, i ≤ n → ∃ w, w < 8 ∧ vsS S c i = nI w := by
  have tab : ∀ w, w < 8 → ∀ v, v < 3 → (nI w ||| ((1 : Int32) <<< (nI v &&& 31))) = nI (w ||| 2 ^ v) ∧ (w ||| 2 ^ v) < 8 := by decide +kernel
  intro i
  induction i with
  | zero => intro _; exact ⟨0, by omega, rfl⟩
  | succ i ih =>
    intro hi
    obtain ⟨w, hw, e⟩ := ih (by omega)
    rw [vsS]
    by_cases hc : S (120 + 7 * i + 5) = c
    · rw [if_pos hc, e]
      obtain ⟨ev, hv⟩ := vy_nI (hm i (by omega))
      rw [ev, (tab w hw _ hv).1]
      exact ⟨_, (tab w hw _ hv).2, rfl⟩
    · rw [if_neg hc]
      exact ⟨w, hw, e⟩
def onS (x : Int32) : Prop := x = 1 ∨ x = 2 ∨ x = 4
theorem bitC {w : Nat} (hw : w < 8) (M : Mem) : ∃ r, f_J6_bitCount_0f7a4 (nI w) M = some (r, M) ∧ (r = 1 ↔ onS (nI w)) := by
  unfold f_J6_bitCount_0f7a4 f_J6_bitCount_0f7a4_b0 f_J6_bitCount_0f7a4_bc23_1 f_J6_bitCount_0f7a4_bc46_2
  refine ⟨_, rfl, ?_⟩
  unfold onS
  revert w
  decide +kernel
theorem areSeen_eq {M : Mem} {s : Nat} (h : M 4 0 = nI s) (hs : s < 2 ^ 31) : f_X1_areSeen M = some (b2i (0 < s), M) := by
  unfold f_X1_areSeen f_X1_areSeen_b0 b2i
  rw [h]
  by_cases h0 : s = 0
  · subst h0
    rw [if_pos (by decide), if_neg (by omega)]
  · rw [if_neg (nI_nle (by omega) hs), if_pos (by omega)]
theorem hold_eq {M : Mem} {S : Row} {k : Int32} {n : Nat} (hn : n < 2 ^ 31) (h : EnS (M 4) S k n) : f_X1_hold M = some (b2i (0 < seS S k n ∧ ¬ hiS S k n < loS S k n), M) := by
  obtain ⟨h0, -, -, h1⟩ := h
  have hle := seS_le S k n
  unfold f_X1_hold f_X1_hold_b0 b2i
  rw [h0]
  by_cases hz : seS S k n = 0
  · rw [if_pos (by rw [hz]; decide), if_neg (by omega)]
  · obtain ⟨a, b⟩ := h1 (by omega)
    rw [if_neg (nI_nle (by omega) (by omega)), a, b]
    by_cases q : hiS S k n < loS S k n
    · rw [if_pos q, if_neg (fun z => z.2 q)]
    · rw [if_neg q, if_pos ⟨by omega, q⟩]
theorem width_eq {M : Mem} : f_X1_width M = some (M 4 2 - M 4 1, M) := rfl
theorem standC_eq {M : Mem} {S : Row} {k : Int32} {n : Nat} (hm : ∀ i, i < n → MkOk S i) (h : EnS (M 4) S k n) : ∃ r, f_X1_standOnOne M = some (r, M) ∧ (r = 0 ↔ ¬ onS (vsS S k n)) ∧ (r = 0 ∨ r = 1) := by
  obtain ⟨w, hw, e⟩ := vs_nI (c := k) hm n (Nat.le_refl _)
  unfold f_X1_standOnOne f_X1_standOnOne_b0
  rw [h.2.2.1, e]
  obtain ⟨r, e1, g1⟩ := bitC hw M
  rw [e1]
  simp only [Option.bind_some]
  by_cases q : r = 1
  · rw [if_pos q]
    exact ⟨1, rfl, ⟨fun z => absurd z (by decide), fun z => absurd (g1.mp q) z⟩, Or.inr rfl⟩
  · rw [if_neg q]
    exact ⟨0, rfl, ⟨fun _ z => q (g1.mpr z), fun _ => rfl⟩, Or.inl rfl⟩
theorem holds_eq {N : Mem} {n t c : Nat} (h : SV (N 1) n t) : ∃ N', f_X10_holds (nI c) N = some (b2i (0 < seS (N 1) (nI c) n ∧ ¬ hiS (N 1) (nI c) n < loS (N 1) (nI c) n), N') ∧ SM N N' ∧ FnS (N' 0) (N 1) (nI c) n := by
  obtain ⟨N', e, g, f⟩ := find_eq (c := c) h
  have hle := seS_le (N 1) (nI c) n
  have hn := h.2.1
  refine ⟨N', ?_, g, f⟩
  obtain ⟨f26, f27, f28, -⟩ := f
  unfold f_X10_holds f_X10_holds_b0 b2i
  rw [e]
  simp only [Option.bind_some]
  rw [f26, f27, f28]
  by_cases hz : seS (N 1) (nI c) n = 0
  · rw [if_pos (by rw [hz]; decide), if_neg (by omega)]
  · rw [if_neg (nI_nle (by omega) (by omega))]
    by_cases q : hiS (N 1) (nI c) n < loS (N 1) (nI c) n
    · rw [if_pos q, if_neg (fun z => z.2 q)]
    · rw [if_neg q, if_pos ⟨by omega, q⟩]
theorem standM_eq {N : Mem} {n t c : Nat} (h : SV (N 1) n t) : ∃ r N', f_X10_standsOnOne (nI c) N = some (r, N') ∧ SM N N' ∧ (r = 0 ↔ ¬ onS (vsS (N 1) (nI c) n)) ∧ (r = 0 ∨ r = 1) := by
  obtain ⟨N', e, g, f⟩ := find_eq (c := c) h
  obtain ⟨-, -, -, -, f30⟩ := f
  unfold f_X10_standsOnOne f_X10_standsOnOne_b0 f_X10_standsOnOne_b29 onS
  rw [e]
  simp only [Option.bind_some]
  rw [f30]
  by_cases q1 : vsS (N 1) (nI c) n = 1
  · rw [if_pos q1]
    exact ⟨1, N', rfl, g, ⟨fun z => absurd z (by decide), fun z => absurd (Or.inl q1) z⟩, Or.inr rfl⟩
  rw [if_neg q1]
  by_cases q2 : vsS (N 1) (nI c) n = 2
  · rw [if_pos q2]
    exact ⟨1, N', rfl, g, ⟨fun z => absurd z (by decide), fun z => absurd (Or.inr (Or.inl q2)) z⟩, Or.inr rfl⟩
  rw [if_neg q2]
  by_cases q4 : vsS (N 1) (nI c) n = 4
  · rw [if_pos q4]
    exact ⟨1, N', rfl, g, ⟨fun z => absurd z (by decide), fun z => absurd (Or.inr (Or.inr q4)) z⟩, Or.inr rfl⟩
  rw [if_neg q4]
  exact ⟨0, N', rfl, g, ⟨fun _ z => by rcases z with z | z | z <;> contradiction, fun _ => rfl⟩, Or.inl rfl⟩
theorem ite01 {r s : Int32} (hr : r = 0 ∨ r = 1) (hs : s = 0 ∨ s = 1) (h : r = 0 ↔ s = 0) : r = s := by
  rcases hr with rfl | rfl <;> rcases hs with rfl | rfl
  · rfl
  · exact absurd (h.mp rfl) (by decide)
  · exact absurd (h.mpr rfl) (by decide)
  · rfl
theorem q_cape {M N : Mem} (h : Rel M N) (x1 x2 : Int32) : Eqv (f_X9_cape x1 x2 M) (f_X10_cape x1 x2 N) := by
  obtain ⟨n, t, hv⟩ := RV.of (Or.inl rfl) h.1
  have hs := hv.sv
  have hn := hs.2.1
  unfold f_X9_cape f_X9_cape_b0 f_X10_cape f_X10_cape_b0
  rw [isBelowN x1 9 9 (by decide), isCape_eq]
  simp only [Option.bind_some, b2i_eq0]
  by_cases hc : 0 ≤ x1.toInt ∧ x1.toInt < 9
  rotate_left
  · rw [if_pos hc, if_pos (show ¬ (0 ≤ x1.toInt ∧ x1.toInt < 9) by omega)]
    exact ⟨_, M, N, rfl, rfl, h⟩
  rw [if_neg (nn hc), if_neg (nn (show 0 ≤ x1.toInt ∧ x1.toInt < 9 by omega))]
  rw [isWithinN x2 (0) 7 (0) 7 (by decide) (by decide), isInN x2 (0) 7 (0) 7 (by decide) (by decide)]
  simp only [Option.bind_some, b2i_eq0]
  by_cases hk : 0 ≤ x2.toInt ∧ x2.toInt ≤ 7
  rotate_left
  · rw [if_pos hk, if_pos (show ¬ (0 ≤ x2.toInt ∧ x2.toInt ≤ 7) by omega)]
    exact ⟨_, M, N, rfl, rfl, h⟩
  rw [if_neg (nn hk), if_neg (nn (show 0 ≤ x2.toInt ∧ x2.toInt ≤ 7 by omega))]
  obtain ⟨c, hc9, rfl⟩ := i_of (n := 9) hc.1 hc.2
  obtain ⟨M1, e1, g1, E1⟩ := look_eq hv hc9
  obtain ⟨N1, e2, g2, F1⟩ := find_eq (c := c) hs
  have h1 := h.scr g1 g2
  have s1 : N1 1 = N 1 := g2.1 1 (by omega)
  have hs1 : SV (N1 1) n t := by rw [s1]; exact hs
  rw [e1, e2]
  simp only [Option.bind_some]
  have hle := seS_le (N 1) (nI c) n
  rw [areSeen_eq E1.1 (by omega)]
  simp only [Option.bind_some, b2i_eq0]
  have F1' := F1
  obtain ⟨f26, f27, f28, f29, f30⟩ := F1
  rw [f26]
  have key : (0 < seS (N 1) (nI c) n ∨ ¬ (1 ≤ x2.toInt ∧ x2.toInt ≤ 4)) → Eqv (f_X9_cape_b56 x2 M1) (f_X10_cape_b49 (nI c) x2 N1) := by
    intro hh
    unfold f_X9_cape_b56 f_X10_cape_b49
    by_cases c0 : x2 = 0
    · rw [if_pos c0, if_pos c0, E1.1, f26]
      exact ⟨_, M1, N1, rfl, rfl, h1⟩
    rw [if_neg c0, if_neg c0]
    have es : (1 ≤ x2.toInt ∧ x2.toInt ≤ 4) → M1 4 1 = loS (N 1) (nI c) n ∧ M1 4 2 = hiS (N 1) (nI c) n := fun q => E1.2.2.2 (by rcases hh with a | a; exact a; exact absurd q a)
    by_cases c1 : x2 = 1
    · rw [if_pos c1, if_pos c1, (es (by rw [c1]; decide)).1, f27]
      exact ⟨_, M1, N1, rfl, rfl, h1⟩
    rw [if_neg c1, if_neg c1]
    by_cases c2 : x2 = 2
    · rw [if_pos c2, if_pos c2, (es (by rw [c2]; decide)).2, f28]
      exact ⟨_, M1, N1, rfl, rfl, h1⟩
    rw [if_neg c2, if_neg c2]
    by_cases c3 : x2 = 3
    · rw [if_pos c3, if_pos c3, width_eq]
      simp only [Option.bind_some]
      rw [(es (by rw [c3]; decide)).1, (es (by rw [c3]; decide)).2, f27, f28]
      exact ⟨_, M1, N1, rfl, rfl, h1⟩
    rw [if_neg c3, if_neg c3]
    by_cases c4 : x2 = 4
    · rw [if_pos c4, if_pos c4, (es (by rw [c4]; decide)).1, (es (by rw [c4]; decide)).2, f27, f28]
      exact ⟨_, M1, N1, rfl, rfl, h1⟩
    rw [if_neg c4, if_neg c4]
    by_cases c5 : x2 = 5
    · obtain ⟨N2, e3, g3, -⟩ := holds_eq (c := c) hs1
      rw [if_pos c5, if_pos c5, hold_eq (by omega) E1, e3, s1]
      simp only [Option.bind_some]
      by_cases q : b2i (0 < seS (N 1) (nI c) n ∧ ¬ hiS (N 1) (nI c) n < loS (N 1) (nI c) n) = 0
      · rw [if_pos q, if_pos q]
        exact ⟨_, M1, N2, rfl, rfl, h1.scr (SC.rf M1) g3⟩
      · rw [if_neg q, if_neg q]
        exact ⟨_, M1, N2, rfl, rfl, h1.scr (SC.rf M1) g3⟩
    rw [if_neg c5, if_neg c5]
    by_cases c6 : x2 = 6
    · rw [if_pos c6, if_pos c6, E1.2.1, f29]
      exact ⟨_, M1, N1, rfl, rfl, h1⟩
    rw [if_neg c6, if_neg c6]
    obtain ⟨r1, e3, g3, z3⟩ := standC_eq hs.2.2.1 E1
    obtain ⟨r2, N2, e4, g4, i4, z4⟩ := standM_eq (c := c) hs1
    rw [s1] at i4
    have : r1 = r2 := ite01 z3 z4 (g3.trans i4.symm)
    subst this
    rw [e3, e4]
    simp only [Option.bind_some]
    by_cases q : r1 = 0
    · rw [if_pos q, if_pos q]
      exact ⟨_, M1, N2, rfl, rfl, h1.scr (SC.rf M1) g4⟩
    · rw [if_neg q, if_neg q]
      exact ⟨_, M1, N2, rfl, rfl, h1.scr (SC.rf M1) g4⟩
  by_cases hz : seS (N 1) (nI c) n = 0
  · rw [if_pos (show ¬ 0 < seS (N 1) (nI c) n by omega), if_pos (show nI (seS (N 1) (nI c) n) = 0 by rw [hz]; rfl), isWithinN x2 1 4 1 4 (by decide) (by decide), isInN x2 1 4 1 4 (by decide) (by decide)]
    simp only [Option.bind_some, b2i_eq0]
    by_cases q : 1 ≤ x2.toInt ∧ x2.toInt ≤ 4
    · rw [if_neg (nn q), if_neg (nn q)]
      exact ⟨_, M1, N1, rfl, rfl, h1⟩
    · rw [if_pos q, if_pos q]
      exact key (Or.inr q)
  · rw [if_neg (nn (show 0 < seS (N 1) (nI c) n by omega)), if_neg (show ¬ nI (seS (N 1) (nI c) n) = 0 from nI_ne0 (by omega) (by omega))]
    exact key (Or.inl (by omega))
theorem q_capes {M N : Mem} (h : Rel M N) (x1 : Int32) : Eqv (f_X9_capes x1 M) (f_X10_capes x1 N) := by
  have key : ∀ (r f1 f2 c : Nat) (acc : Int32) (M N : Mem), c + r = 9 → r < f1 → r < f2 → Rel M N → (x1 = 0 ∨ x1 = 1 ∨ x1 = 2) → Eqv (f_X9_capes_b16 f1 x1 acc (nI c) M) (f_X10_capes_b19 f2 x1 acc (nI c) N) := by
    intro r
    induction r with
    | zero =>
      intro f1 f2 c acc M N hc h1 h2 h hx
      obtain ⟨a, rfl⟩ : ∃ a, f1 = a + 1 := ⟨f1 - 1, by omega⟩
      obtain ⟨b, rfl⟩ : ∃ b, f2 = b + 1 := ⟨f2 - 1, by omega⟩
      have : c = 9 := by omega
      subst this
      rw [f_X9_capes_b16, f_X10_capes_b19, if_pos (by decide), if_pos (by decide)]
      exact ⟨_, M, N, rfl, rfl, h⟩
    | succ r ih =>
      intro f1 f2 c acc M N hc h1 h2 h hx
      obtain ⟨a, rfl⟩ : ∃ a, f1 = a + 1 := ⟨f1 - 1, by omega⟩
      obtain ⟨b, rfl⟩ : ∃ b, f2 = b + 1 := ⟨f2 - 1, by omega⟩
      obtain ⟨n, t, hv⟩ := RV.of (Or.inl rfl) h.1
      have hs := hv.sv
      have hn := hs.2.1
      obtain ⟨M1, e1, g1, E1⟩ := look_eq hv (c := c) (by omega)
      have hle := seS_le (N 1) (nI c) n
      rw [f_X9_capes_b16, f_X10_capes_b19, if_neg (show ¬ (9 : Int32) ≤ nI c by rw [i_lit]; exact nI_ge (by omega) (by omega)), if_neg (show ¬ (9 : Int32) ≤ nI c by rw [i_lit]; exact nI_ge (by omega) (by omega)), e1]
      simp only [Option.bind_some]
      have nxt : ∀ (s : Int32) (N2 : Mem), SM N N2 → Eqv (f_X9_capes_b85 (f_X9_capes_b16 a) x1 (nI c) s acc M1) (f_X10_capes_b87 (f_X10_capes_b19 b) x1 (nI c) s acc N2) := by
        intro s N2 g
        rw [f_X9_capes_b85, f_X10_capes_b87, nI_1]
        exact ih a b (c + 1) _ M1 N2 (by omega) (by omega) (by omega) (h.scr g1 g) hx
      rcases hx with rfl | rfl | rfl
      · rw [if_pos rfl, areSeen_eq E1.1 (by omega), if_neg (by decide), if_neg (by decide), f_X10_capes_b55, f_X10_capes_b56]
        obtain ⟨N1, e2, g2, F1⟩ := find_eq (c := c) hs
        rw [e2]
        simp only [Option.bind_some, if_true]
        rw [f_X9_capes_b70, F1.1]
        simp only [b2i_eq0]
        by_cases q : 0 < seS (N 1) (nI c) n
        · rw [if_neg (nn q), if_neg (nI_nle q (by omega)), f_X10_capes_b80]
          exact nxt _ N1 g2
        · rw [if_pos q, if_pos (show nI (seS (N 1) (nI c) n) ≤ 0 by rw [show seS (N 1) (nI c) n = 0 by omega]; decide), f_X10_capes_b86]
          exact nxt _ N1 g2
      · rw [if_neg (by decide), if_pos rfl, if_pos rfl, hold_eq (by omega) E1]
        obtain ⟨N1, e2, g2, -⟩ := holds_eq (c := c) hs
        rw [e2]
        simp only [Option.bind_some]
        have s1 : N1 1 = N 1 := g2.1 1 (by omega)
        obtain ⟨N2, e3, g3, -⟩ := find_eq (c := c) (N := N1) (by rw [s1]; exact hs)
        rw [f_X10_capes_b56, e3]
        simp only [Option.bind_some]
        rw [f_X9_capes_b70]
        simp only [b2i_eq0]
        by_cases q : 0 < seS (N 1) (nI c) n ∧ ¬ hiS (N 1) (nI c) n < loS (N 1) (nI c) n
        · rw [if_neg (nn q), if_neg (nn q), f_X10_capes_b80]
          exact nxt _ N2 (g2.tr g3)
        · rw [if_pos q, if_pos q, if_neg (by decide), f_X10_capes_b86]
          exact nxt _ N2 (g2.tr g3)
      · rw [if_neg (by decide), if_neg (by decide), if_neg (by decide), if_pos rfl]
        obtain ⟨r1, e3, g3, z3⟩ := standC_eq hs.2.2.1 E1
        obtain ⟨r2, N1, e4, g4, i4, z4⟩ := standM_eq (c := c) hs
        have : r1 = r2 := ite01 z3 z4 (g3.trans i4.symm)
        subst this
        rw [e3, e4]
        simp only [Option.bind_some]
        have s1 : N1 1 = N 1 := g4.1 1 (by omega)
        obtain ⟨N2, e5, g5, -⟩ := find_eq (c := c) (N := N1) (by rw [s1]; exact hs)
        rw [f_X10_capes_b55, f_X10_capes_b56, f_X10_capes_b56, e5]
        simp only [Option.bind_some, if_true]
        rw [f_X9_capes_b70]
        by_cases q : r1 = 0
        · rw [if_pos q, if_pos q, if_neg (by decide), f_X10_capes_b86]
          exact nxt _ N2 (g4.tr g5)
        · rw [if_neg q, if_neg q, if_neg (by decide), f_X10_capes_b80]
          exact nxt _ N2 (g4.tr g5)
  unfold f_X9_capes f_X9_capes_b0 f_X10_capes f_X10_capes_b0
  rw [isWithinN x1 (0) 2 (0) 2 (by decide) (by decide), isInN x1 (0) 2 (0) 2 (by decide) (by decide)]
  simp only [Option.bind_some, b2i_eq0]
  by_cases hk : 0 ≤ x1.toInt ∧ x1.toInt ≤ 2
  rotate_left
  · rw [if_pos hk, if_pos (show ¬ (0 ≤ x1.toInt ∧ x1.toInt ≤ 2) by omega)]
    exact ⟨_, M, N, rfl, rfl, h⟩
  rw [if_neg (nn hk), if_neg (nn (show 0 ≤ x1.toInt ∧ x1.toInt ≤ 2 by omega))]
  refine key 9 FU FU 0 0 M N (by omega) (by unfold FU; omega) (by unfold FU; omega) h ?_
  obtain ⟨k, hk3, rfl⟩ := i_of (n := 3) hk.1 (by omega)
  rcases (show k = 0 ∨ k = 1 ∨ k = 2 by omega) with rfl | rfl | rfl
  · exact Or.inl rfl
  · exact Or.inr (Or.inl rfl)
  · exact Or.inr (Or.inr rfl)
theorem q_next {M N : Mem} (h : Rel M N) : Eqv (f_X9_next M) (f_X10_next N) := by
  have key : ∀ (r f1 f2 c : Nat) (b w : Int32) (M N : Mem), c + r = 9 → r < f1 → r < f2 → Rel M N → Eqv (f_X9_next_b7 f1 (uc b) w (nI c) M) (f_X10_next_b6 f2 b w (nI c) N) := by
    intro r
    induction r with
    | zero =>
      intro f1 f2 c b w M N hc h1 h2 h
      obtain ⟨a, rfl⟩ : ∃ a, f1 = a + 1 := ⟨f1 - 1, by omega⟩
      obtain ⟨d, rfl⟩ : ∃ d, f2 = d + 1 := ⟨f2 - 1, by omega⟩
      have : c = 9 := by omega
      subst this
      rw [f_X9_next_b7, f_X10_next_b6, if_pos (by decide), if_pos (by decide), f_X10_next_b51, orNone_eq]
      exact ⟨_, M, N, rfl, rfl, h⟩
    | succ r ih =>
      intro f1 f2 c b w M N hc h1 h2 h
      obtain ⟨a, rfl⟩ : ∃ a, f1 = a + 1 := ⟨f1 - 1, by omega⟩
      obtain ⟨d, rfl⟩ : ∃ d, f2 = d + 1 := ⟨f2 - 1, by omega⟩
      obtain ⟨n, t, hv⟩ := RV.of (Or.inl rfl) h.1
      have hs := hv.sv
      have hn := hs.2.1
      obtain ⟨M1, e1, g1, E1⟩ := look_eq hv (c := c) (by omega)
      obtain ⟨N1, e2, g2, F1⟩ := holds_eq (c := c) hs
      have h' := h.scr g1 g2
      rw [f_X9_next_b7, f_X10_next_b6, if_neg (show ¬ (9 : Int32) ≤ nI c by rw [i_lit]; exact nI_ge (by omega) (by omega)), if_neg (show ¬ (9 : Int32) ≤ nI c by rw [i_lit]; exact nI_ge (by omega) (by omega)), e1, e2]
      simp only [Option.bind_some]
      rw [hold_eq (by omega) E1]
      simp only [Option.bind_some, b2i_eq0, width_eq]
      by_cases q : 0 < seS (N 1) (nI c) n ∧ ¬ hiS (N 1) (nI c) n < loS (N 1) (nI c) n
      · obtain ⟨a1, a2⟩ := E1.2.2.2 q.1
        rw [if_neg (nn q), if_neg (nn q), a1, a2, F1.2.1, F1.2.2.1]
        by_cases q2 : hiS (N 1) (nI c) n - loS (N 1) (nI c) n ≤ w
        · rw [if_pos q2, if_pos q2, f_X9_next_b56, f_X10_next_b45, nI_1]
          exact ih a d (c + 1) b w M1 N1 (by omega) (by omega) (by omega) h'
        · rw [if_neg q2, if_neg q2, f_X9_next_b56, f_X10_next_b45, nI_1]
          have := ih a d (c + 1) (nI c) (hiS (N 1) (nI c) n - loS (N 1) (nI c) n) M1 N1 (by omega) (by omega) (by omega) h'
          rw [show uc (nI c) = nI c from by unfold uc; rw [if_pos (nI_pos' (by omega))]] at this
          exact this
      · rw [if_pos q, if_pos q, f_X9_next_b56, f_X10_next_b45, nI_1]
        exact ih a d (c + 1) b w M1 N1 (by omega) (by omega) (by omega) h'
  unfold f_X9_next f_X9_next_b0 f_X10_next f_X10_next_b0
  exact key 9 FU FU 0 (-1) (-1) M N (by omega) (by unfold FU; omega) (by unfold FU; omega) h
theorem q_court {M N : Mem} (h : Rel M N) (x1 x2 x3 x4 : Int32) : Eqv (f_X9_court x1 x2 x3 x4 M) (f_X10_court x1 x2 x3 x4 N) := by
  obtain ⟨n, t, hv⟩ := RV.of (Or.inl rfl) h.1
  have hs := hv.sv
  have hn := hs.2.1
  unfold f_X9_court f_X9_court_b0 f_X10_court f_X10_court_b0
  rw [isBelowN x1 9 9 (by decide), isCape_eq]
  simp only [Option.bind_some, b2i_eq0]
  by_cases hc : 0 ≤ x1.toInt ∧ x1.toInt < 9
  rotate_left
  · rw [if_pos hc, if_pos (show ¬ (0 ≤ x1.toInt ∧ x1.toInt < 9) by omega)]
    exact ⟨_, M, N, rfl, rfl, h⟩
  rw [if_neg (nn hc), if_neg (nn (show 0 ≤ x1.toInt ∧ x1.toInt < 9 by omega))]
  rw [isWithinN x2 (-99) 99 (-99) 99 (by decide) (by decide), isInN x2 (-99) 99 (-99) 99 (by decide) (by decide)]
  simp only [Option.bind_some, b2i_eq0]
  by_cases hk : -99 ≤ x2.toInt ∧ x2.toInt ≤ 99
  rotate_left
  · rw [if_pos hk, if_pos (show ¬ (-99 ≤ x2.toInt ∧ x2.toInt ≤ 99) by omega)]
    exact ⟨_, M, N, rfl, rfl, h⟩
  rw [if_neg (nn hk), if_neg (nn (show -99 ≤ x2.toInt ∧ x2.toInt ≤ 99 by omega))]
  rw [isWithinN x3 (0) 1999 (0) 1999 (by decide) (by decide), isInN x3 (0) 1999 (0) 1999 (by decide) (by decide)]
  simp only [Option.bind_some, b2i_eq0]
  by_cases hx : 0 ≤ x3.toInt ∧ x3.toInt ≤ 1999
  rotate_left
  · rw [if_pos hx, if_pos (show ¬ (0 ≤ x3.toInt ∧ x3.toInt ≤ 1999) by omega)]
    exact ⟨_, M, N, rfl, rfl, h⟩
  rw [if_neg (nn hx), if_neg (nn (show 0 ≤ x3.toInt ∧ x3.toInt ≤ 1999 by omega))]
  rw [isWithinN x4 x3 1999 x3.toInt 1999 rfl (by decide), isInN x4 x3.toInt64 1999 x3.toInt 1999 (l_of x3) (by decide)]
  simp only [Option.bind_some, b2i_eq0]
  by_cases hy : x3.toInt ≤ x4.toInt ∧ x4.toInt ≤ 1999
  rotate_left
  · rw [if_pos hy, if_pos (show ¬ (x3.toInt ≤ x4.toInt ∧ x4.toInt ≤ 1999) by omega)]
    exact ⟨_, M, N, rfl, rfl, h⟩
  rw [if_neg (nn hy), if_neg (nn (show x3.toInt ≤ x4.toInt ∧ x4.toInt ≤ 1999 by omega))]
  obtain ⟨c, hc9, rfl⟩ := i_of (n := 9) hc.1 hc.2
  obtain ⟨M1, e1, g1, E1⟩ := look_eq hv hc9
  obtain ⟨N1, e2, g2, F1⟩ := holds_eq (c := c) hs
  have h' := h.scr g1 g2
  rw [e1, e2]
  simp only [Option.bind_some]
  rw [hold_eq (by omega) E1]
  simp only [Option.bind_some, b2i_eq0]
  by_cases q : 0 < seS (N 1) (nI c) n ∧ ¬ hiS (N 1) (nI c) n < loS (N 1) (nI c) n
  · obtain ⟨a1, a2⟩ := E1.2.2.2 q.1
    rw [if_neg (nn q), if_neg (nn q), a1, a2, F1.2.1, F1.2.2.1]
    have same : Eqv (f_X9_court_b108 x3 x4 (loS (N 1) (nI c) n + x2) (hiS (N 1) (nI c) n + x2) M1) (f_X10_court_b95 x3 x4 (loS (N 1) (nI c) n + x2) (hiS (N 1) (nI c) n + x2) N1) := by
      unfold f_X9_court_b108 f_X10_court_b95 f_X9_court_b121
      by_cases p1 : hiS (N 1) (nI c) n + x2 < x3
      · rw [if_pos p1]
        by_cases p2 : x4 < loS (N 1) (nI c) n + x2
        · rw [if_pos p2]; exact ⟨_, M1, N1, rfl, rfl, h'⟩
        · rw [if_neg p2, if_pos p1]; exact ⟨_, M1, N1, rfl, rfl, h'⟩
      · rw [if_neg p1]
        by_cases p2 : x4 < loS (N 1) (nI c) n + x2
        · rw [if_neg (by rw [i_le]; rw [i_lt] at p2; omega), if_pos p2]; exact ⟨_, M1, N1, rfl, rfl, h'⟩
        · rw [if_pos (by rw [i_le]; rw [i_lt] at p2; omega), if_neg p2, if_neg p1]; exact ⟨_, M1, N1, rfl, rfl, h'⟩
    by_cases p3 : loS (N 1) (nI c) n + x2 < x3
    · rw [if_pos p3, if_pos p3]; exact same
    · rw [if_neg p3, if_neg p3]
      by_cases p4 : x4 < hiS (N 1) (nI c) n + x2
      · rw [if_pos p4, if_pos p4]; exact same
      · rw [if_neg p4, if_neg p4]; exact ⟨_, M1, N1, rfl, rfl, h'⟩
  · rw [if_pos q, if_pos q]
    exact ⟨_, M1, N1, rfl, rfl, h'⟩
theorem or0 (x : Int32) : x ||| 0 = x := Int32.or_zero
theorem uc_none {x : Int32} (h : -1 ≤ x.toInt) : (uc x = (-1000000005 : Int32)) ↔ x < 0 := by
  unfold uc
  by_cases q : 0 ≤ x
  · rw [if_pos q, i_eq, i_lt]
    have : (-1000000005 : Int32).toInt = -1000000005 := by decide
    rw [this, i_0]
    rw [i_le, i_0] at q
    omega
  · rw [if_neg q]
    rw [i_le, i_0] at q
    rw [i_lt, i_0]
    simp
    omega
theorem q_held {M N : Mem} (h : Rel M N) : Eqv (f_X9_held M) (f_X10_held N) := by
  have key : ∀ (r f1 f2 c : Nat) (acc : Int32) (M N : Mem), c + r = 9 → r < f1 → r < f2 → Rel M N → Eqv (f_X9_held_b4 f1 acc (nI c) M) (f_X10_held_b4 f2 acc (nI c) N) := by
    intro r
    induction r with
    | zero =>
      intro f1 f2 c acc M N hc h1 h2 h
      obtain ⟨a, rfl⟩ : ∃ a, f1 = a + 1 := ⟨f1 - 1, by omega⟩
      obtain ⟨d, rfl⟩ : ∃ d, f2 = d + 1 := ⟨f2 - 1, by omega⟩
      have : c = 9 := by omega
      subst this
      rw [f_X9_held_b4, f_X10_held_b4, if_pos (by decide), if_pos (by decide)]
      exact ⟨_, M, N, rfl, rfl, h⟩
    | succ r ih =>
      intro f1 f2 c acc M N hc h1 h2 h
      obtain ⟨a, rfl⟩ : ∃ a, f1 = a + 1 := ⟨f1 - 1, by omega⟩
      obtain ⟨d, rfl⟩ : ∃ d, f2 = d + 1 := ⟨f2 - 1, by omega⟩
      obtain ⟨n, t, hv⟩ := RV.of (Or.inl rfl) h.1
      have hs := hv.sv
      have hn := hs.2.1
      obtain ⟨M1, e1, g1, E1⟩ := look_eq hv (c := c) (by omega)
      obtain ⟨N1, e2, g2, F1⟩ := holds_eq (c := c) hs
      have h' := h.scr g1 g2
      have s1 : N1 1 = N 1 := g2.1 1 (by omega)
      obtain ⟨sv, sb⟩ := h.1.2.2.2.2.1 c (by omega)
      have m55 : M1 55 c = uc (N 1 (20 + c)) := by rw [g1 55 (by omega)]; exact sv
      have e20 : (20 : Int32) + nI c = nI (20 + c) := by rw [i_lit, nI_add]
      have go : ∀ s, Eqv (f_X9_held_b81 (f_X9_held_b4 a) (acc ||| s) (nI c) M1) (f_X10_held_b64 (f_X10_held_b4 d) (nI c) s acc N1) := by
        intro s
        rw [f_X9_held_b81, f_X10_held_b64, nI_1]
        exact ih a d (c + 1) _ M1 N1 (by omega) (by omega) (by omega) h'
      have go0 : Eqv (f_X9_held_b81 (f_X9_held_b4 a) acc (nI c) M1) (f_X10_held_b64 (f_X10_held_b4 d) (nI c) 0 acc N1) := by
        have := go 0
        rw [or0] at this
        exact this
      rw [f_X9_held_b4, f_X10_held_b4, if_neg (show ¬ (9 : Int32) ≤ nI c by rw [i_lit]; exact nI_ge (by omega) (by omega)), if_neg (show ¬ (9 : Int32) ≤ nI c by rw [i_lit]; exact nI_ge (by omega) (by omega)), e1, e2]
      simp only [Option.bind_some]
      rw [if_pos (ixb_t (show c < 9 by omega) (by omega)), ix_nI (by omega), m55, e20, if_pos (ixb_t (show 20 + c < 3300 by omega) (by omega)), ix_nI (by omega), s1, hold_eq (by omega) E1]
      simp only [Option.bind_some, b2i_eq0]
      rw [if_pos (ixb_t (show 20 + c < 3300 by omega) (by omega)), if_pos (ixb_t (show c < 9 by omega) (by omega)), m55, F1.2.1, F1.2.2.1]
      by_cases q0 : N 1 (20 + c) < 0
      · rw [if_pos ((uc_none sb.1).mpr q0)]
        by_cases q : 0 < seS (N 1) (nI c) n ∧ ¬ hiS (N 1) (nI c) n < loS (N 1) (nI c) n
        · rw [if_neg (nn q), if_pos q0, f_X10_held_b63]; exact go0
        · rw [if_pos q, f_X10_held_b63]; exact go0
      · rw [if_neg (fun z => q0 ((uc_none sb.1).mp z))]
        have ue : uc (N 1 (20 + c)) = N 1 (20 + c) := by unfold uc; rw [if_pos (by rw [i_lt, i_0] at q0; rw [i_le, i_0]; omega)]
        by_cases q : 0 < seS (N 1) (nI c) n ∧ ¬ hiS (N 1) (nI c) n < loS (N 1) (nI c) n
        · obtain ⟨a1, a2⟩ := E1.2.2.2 q.1
          rw [if_neg (nn q), if_neg (nn q), if_neg q0, ue, a1, a2, isWithin_eq, isIn_eq, l_of, l_of]
          simp only [Option.bind_some, b2i_eq0]
          by_cases q5 : (loS (N 1) (nI c) n).toInt ≤ (N 1 (20 + c)).toInt ∧ (N 1 (20 + c)).toInt ≤ (hiS (N 1) (nI c) n).toInt
          · rw [if_neg (nn q5), if_neg (nn q5)]; exact go _
          · rw [if_pos q5, if_pos q5, f_X10_held_b63]; exact go0
        · rw [if_pos q, if_pos q, f_X10_held_b63]; exact go0
  unfold f_X9_held f_X9_held_b0 f_X10_held f_X10_held_b0
  exact key 9 FU FU 0 0 M N (by omega) (by unfold FU; omega) (by unfold FU; omega) h
