/-! SLOTS: the calls -/
theorem lackOf_eq {M N : Mem} (h : Rel M N) {k : Nat} (hk : k < 5) (x : Int32) : f_X9_lackOf (nI k) x M = some ((if N 7 k = 0 then (-1000000011 : Int32) else if N 7 k = x then 0 else (-1000000012 : Int32)), M) := by
  obtain ⟨s0, -⟩ := h.2.2.2.2.1 k hk
  unfold f_X9_lackOf f_X9_lackOf_b0
  rw [isBelowN (nI k) 5 5 (by decide)]
  simp only [Option.bind_some, b2i_eq0]
  rw [if_neg (nn (show 0 ≤ (nI k).toInt ∧ (nI k).toInt < 5 by rw [nI_toInt (by omega)]; omega)), if_pos (ixb_t hk (by omega)), if_pos (ixb_t hk (by omega)), ix_nI (by omega), (rf_sl k hk).1, s0]
  by_cases q : N 7 k = 0
  · rw [if_pos q, if_pos q]
  · rw [if_neg q, if_neg q]
    by_cases q2 : N 7 k = x
    · rw [if_pos q2, if_pos q2]
    · rw [if_neg q2, if_neg q2]
theorem lackOf_bad {x1 : Int32} (hc : ¬ (0 ≤ x1.toInt ∧ x1.toInt < 5)) (x : Int32) (M : Mem) : f_X9_lackOf x1 x M = some ((-1000000001 : Int32), M) := by
  unfold f_X9_lackOf f_X9_lackOf_b0
  rw [isBelowN x1 5 5 (by decide)]
  simp only [Option.bind_some, b2i_eq0]
  rw [if_pos hc]
theorem q_rest {M N : Mem} (h : Rel M N) (x1 x2 : Int32) : Eqv (f_X9_rest x1 x2 M) (f_X10_rest x1 x2 N) := by
  unfold f_X9_rest f_X9_rest_b0 f_X10_rest f_X10_rest_b0
  rw [isSlot_eq]
  simp only [Option.bind_some, b2i_eq0]
  by_cases hc : 0 ≤ x1.toInt ∧ x1.toInt < 5
  rotate_left
  · rw [if_pos hc, lackOf_bad hc]
    simp only [Option.bind_some]
    rw [if_neg (by decide)]
    exact ⟨_, M, N, rfl, rfl, h⟩
  rw [if_neg (nn hc)]
  obtain ⟨k, hk, rfl⟩ := i_of (n := 5) hc.1 hc.2
  obtain ⟨s0, sb, s1, s3, s2⟩ := h.2.2.2.2.1 k hk
  rw [lackOf_eq h hk, if_pos (ixb_t hk (by omega)), if_pos (ixb_t hk (by omega)), if_pos (ixb_t hk (by omega)), ix_nI (by omega), (rf_sl k hk).1]
  simp only [Option.bind_some]
  by_cases q : N 7 k = 3
  · have q0 : ¬ N 7 k = 0 := by rw [q]; decide
    rw [if_pos q, if_neg q0, if_pos q, if_pos rfl, if_pos (ixb_t hk (by omega)), s3 q]
    by_cases z : x2 = 0
    · rw [if_pos z, if_pos z]
      exact ⟨_, M, N, rfl, rfl, h⟩
    · rw [if_neg z, if_neg z, if_neg z, if_neg z]
      exact ⟨_, M, N, rfl, rfl, h⟩
  · rw [if_neg q, if_neg q]
    by_cases q0 : N 7 k = 0
    · rw [if_pos q0, if_pos q0, if_neg (by decide)]
      exact ⟨_, M, N, rfl, rfl, h⟩
    · rw [if_neg q0, if_neg q0, if_neg (by decide)]
      exact ⟨_, M, N, rfl, rfl, h⟩
theorem q_item {M N : Mem} (h : Rel M N) (x1 x2 : Int32) : Eqv (f_X9_item x1 x2 M) (f_X10_item x1 x2 N) := by
  unfold f_X9_item f_X9_item_b0 f_X10_item f_X10_item_b0
  rw [isSlot_eq]
  simp only [Option.bind_some, b2i_eq0]
  by_cases hc : 0 ≤ x1.toInt ∧ x1.toInt < 5
  rotate_left
  · rw [if_pos hc, lackOf_bad hc]
    simp only [Option.bind_some]
    rw [if_neg (by decide)]
    exact ⟨_, M, N, rfl, rfl, h⟩
  rw [if_neg (nn hc)]
  obtain ⟨k, hk, rfl⟩ := i_of (n := 5) hc.1 hc.2
  obtain ⟨s0, sb, s1, s3, s2⟩ := h.2.2.2.2.1 k hk
  obtain ⟨r1, r2, r3⟩ := rf_sl k hk
  rw [lackOf_eq h hk, if_pos (ixb_t hk (by omega)), if_pos (ixb_t hk (by omega)), if_pos (ixb_t hk (by omega)), ix_nI (by omega), r1, r2, r3]
  simp only [Option.bind_some]
  by_cases q : N 7 k = 2
  · obtain ⟨t0, t1, ⟨n, hn, en⟩, tr⟩ := s2 q
    have q0 : ¬ N 7 k = 0 := by rw [q]; decide
    rw [if_pos q, if_neg q0, if_pos q, if_pos rfl, if_pos (ixb_t hk (by omega)), t1, en]
    rw [isBelowN x2 (nI n) n (nI_toInt (by omega)), isInN x2 0 (nI n - 1).toInt64 0 ((n : Int) - 1) (by decide) (by rw [l_of]; exact i_pred (by omega))]
    simp only [Option.bind_some, b2i_eq0]
    by_cases hp : 0 ≤ x2.toInt ∧ x2.toInt < (n : Int)
    rotate_left
    · rw [if_pos hp, if_pos (show ¬ (0 ≤ x2.toInt ∧ x2.toInt ≤ (n : Int) - 1) by omega)]
      exact ⟨_, M, N, rfl, rfl, h⟩
    rw [if_neg (nn hp), if_neg (nn (show 0 ≤ x2.toInt ∧ x2.toInt ≤ (n : Int) - 1 by omega))]
    obtain ⟨p, hpn, rfl⟩ := i_of hp.1 hp.2
    rw [if_pos (ixb_t (show p < 24 by omega) (by omega)), ix_nI (by omega), tr p (by omega), show (24 : Int32) * nI k + nI p = nI (24 * k + p) from by rw [i_lit, nI_mul, nI_add], if_pos (ixb_t (show 24 * k + p < 120 by omega) (by omega)), ix_nI (by omega), if_pos (ixb_t hk (by omega))]
    unfold f_X6_isFog f_X6_isFog_b0
    rw [t0]
    by_cases z1 : N 9 k = 1
    · rw [if_pos z1, if_pos z1]
      by_cases z2 : N 11 (24 * k + p) = (-1000000005 : Int32)
      · rw [if_pos z2, if_pos z2]
        simp only [Option.bind_some]
        rw [if_neg (by decide)]
        exact ⟨_, M, N, rfl, rfl, h⟩
      · rw [if_neg z2, if_neg z2]
        simp only [Option.bind_some, if_true]
        rw [if_pos (ixb_t (show p < 24 by omega) (by omega)), tr p (by omega)]
        exact ⟨_, M, N, rfl, rfl, h⟩
    · rw [if_neg z1, if_neg z1]
      simp only [Option.bind_some, if_true]
      rw [if_pos (ixb_t (show p < 24 by omega) (by omega)), tr p (by omega)]
      exact ⟨_, M, N, rfl, rfl, h⟩
  · rw [if_neg q, if_neg q]
    by_cases q0 : N 7 k = 0
    · rw [if_pos q0, if_pos q0, if_neg (by decide)]
      exact ⟨_, M, N, rfl, rfl, h⟩
    · rw [if_neg q0, if_neg q0, if_neg (by decide)]
      exact ⟨_, M, N, rfl, rfl, h⟩
theorem q_ask {M N : Mem} (h : Rel M N) (x1 x2 : Int32) : Eqv (f_X9_ask x1 x2 M) (f_X10_ask x1 x2 N) := by
  unfold f_X9_ask f_X9_ask_b0 f_X10_ask f_X10_ask_b0
  rw [isSlot_eq, isBelowN x2 8 8 (by decide)]
  simp only [Option.bind_some, b2i_eq0]
  by_cases hc : 0 ≤ x1.toInt ∧ x1.toInt < 5
  rotate_left
  · rw [if_pos (show ¬ (0 ≤ x1.toInt ∧ x1.toInt < 5) from hc), lackOf_bad hc]
    simp only [Option.bind_some]
    unfold f_X9_ask_b22
    rw [if_neg (show ¬ (-1000000001 : Int32) = 0 by decide)]
    refine ⟨(-1000000001 : Int32), M, N, ?_, rfl, h⟩
    split <;> rfl
  rw [if_neg (nn hc), isInN x2 0 7 0 7 (by decide) (by decide)]
  simp only [Option.bind_some, b2i_eq0]
  by_cases hz : 0 ≤ x2.toInt ∧ x2.toInt < 8
  rotate_left
  · rw [if_pos hz, if_pos (show ¬ (0 ≤ x2.toInt ∧ x2.toInt ≤ 7) by omega), f_X9_ask_b22, if_neg (show ¬ (-1000000001 : Int32) = 0 by decide)]
    exact ⟨_, M, N, rfl, rfl, h⟩
  rw [if_neg (nn hz), if_neg (nn (show 0 ≤ x2.toInt ∧ x2.toInt ≤ 7 by omega))]
  obtain ⟨k, hk, rfl⟩ := i_of (n := 5) hc.1 hc.2
  obtain ⟨s0, sb, s1, s3, s2⟩ := h.2.2.2.2.1 k hk
  obtain ⟨r1, -⟩ := rf_sl k hk
  rw [lackOf_eq h hk]
  simp only [Option.bind_some]
  unfold f_X9_ask_b22
  rw [if_pos (ixb_t hk (by omega)), if_pos (ixb_t hk (by omega)), if_pos (ixb_t hk (by omega)), ix_nI (by omega), r1]
  by_cases q0 : N 7 k = 0
  · rw [if_pos q0, if_pos q0, if_neg (by decide)]
    exact ⟨_, M, N, rfl, rfl, h⟩
  rw [if_neg q0, if_neg q0]
  by_cases q1 : N 7 k = 1
  · obtain ⟨e1, e2⟩ := s1 q1
    rw [if_pos q1, if_pos q1, if_pos rfl, e1, if_pos (ixb_t hk (by omega))]
    obtain ⟨u1, f1, g1, -⟩ := isUnder_eq e2 x2 M
    obtain ⟨u2, f2, g2, -⟩ := isOf_eq (N 8 k) x2 N
    rw [f1, f2]
    simp only [Option.bind_some]
    by_cases hu : isUS (N 8 k) x2
    · rw [if_neg (fun z => (g1.mp z) hu), if_neg (fun z => (g2.mp z) hu), if_pos (ixb_t hk (by omega)), worthC_eq, worthM_eq]
      exact ⟨_, M, N, rfl, rfl, h⟩
    · rw [if_pos (g1.mpr hu), if_pos (g2.mpr hu)]
      exact ⟨_, M, N, rfl, rfl, h⟩
  · rw [if_neg q1, if_neg q1, if_neg (by decide)]
    exact ⟨_, M, N, rfl, rfl, h⟩
/-! HOW MANY -/
def cpS (S : Row) : Nat → Nat
  | 0 => 0
  | i + 1 => if S (120 + 7 * i + 5) < 0 then cpS S i else cpS S i + 1
theorem marksPut_eq {M : Mem} {S : Row} {n t : Nat} (h : RV M S 48 n t) : f_X0_marksPut 48 M = some (nI (cpS S n), M) := by
  have hn := h.2.2.1.1
  have hrc := rf_co 48 h.1
  have key : ∀ (r fuel i : Nat), i + r = n → r < fuel → f_X0_marksPut_b4 fuel 48 (nI (cpS S i)) (nI i) M = some (nI (cpS S n), M) := by
    intro r
    induction r with
    | zero =>
      intro fuel i hi hf
      obtain ⟨f, rfl⟩ : ∃ f, fuel = f + 1 := ⟨fuel - 1, by omega⟩
      have : i = n := by omega
      subst this
      rw [f_X0_marksPut_b4, h.2.1, if_pos (nI_le (Nat.le_refl _) (by omega))]
    | succ r ih =>
      intro fuel i hi hf
      obtain ⟨f, rfl⟩ : ∃ f, fuel = f + 1 := ⟨fuel - 1, by omega⟩
      obtain ⟨ok, eq⟩ := h.2.2.1.2.2 i (by omega)
      have e5 : M (48 + 8 + i) 5 = uc (S (120 + 7 * i + 5)) := eq.2.2.2.2.2.1
      have r0 : rfC 49 i = 48 + 8 + i := rf_mk (co := 48) (Or.inl rfl) (by omega)
      have := ih f (i + 1) (by omega) (by omega)
      rw [cpS] at this
      rw [f_X0_marksPut_b4, h.2.1, if_neg (nI_ge (by omega) (by omega)), if_pos (ixb_t (show i < 24 by omega) (by omega)), ix_nI (by omega), show rfC 48 0 = 49 from hrc.1, r0, e5]
      by_cases q : S (120 + 7 * i + 5) < 0
      · rw [if_pos q] at this
        rw [if_pos ((uc_none ok.2.2.2.2.2.1.1).mpr q), f_X0_marksPut_b32, show nI (cpS S i) + 0 = nI (cpS S i) from Int32.add_zero _, nI_1]
        exact this
      · rw [if_neg q] at this
        rw [if_neg (fun z => q ((uc_none ok.2.2.2.2.2.1.1).mp z)), f_X0_marksPut_b32, nI_1, nI_1]
        exact this
  unfold f_X0_marksPut f_X0_marksPut_b0
  exact key n FU 0 (by omega) (by unfold FU; omega)
theorem countM_eq {N : Mem} {n t : Nat} (h : SV (N 1) n t) : f_X10_count_b61 FU 0 0 N = some (nI (cpS (N 1) n), N) := by
  have hn := h.2.1
  have key : ∀ (r fuel i : Nat), i + r = n → r < fuel → f_X10_count_b61 fuel (nI (cpS (N 1) i)) (nI i) N = some (nI (cpS (N 1) n), N) := by
    intro r
    induction r with
    | zero =>
      intro fuel i hi hf
      obtain ⟨f, rfl⟩ : ∃ f, fuel = f + 1 := ⟨fuel - 1, by omega⟩
      have : i = n := by omega
      subst this
      rw [f_X10_count_b61, h.1, if_pos (nI_le (Nat.le_refl _) (by omega))]
    | succ r ih =>
      intro fuel i hi hf
      obtain ⟨f, rfl⟩ : ∃ f, fuel = f + 1 := ⟨fuel - 1, by omega⟩
      have := ih f (i + 1) (by omega) (by omega)
      rw [cpS] at this
      rw [f_X10_count_b61, h.1, if_neg (nI_ge (by omega) (by omega)), fd5 (by omega)]
      simp only [Option.bind_some]
      by_cases q : N 1 (120 + 7 * i + 5) < 0
      · rw [if_pos q] at this ⊢
        rw [f_X10_count_b86, show nI (cpS (N 1) i) + 0 = nI (cpS (N 1) i) from Int32.add_zero _, nI_1]
        exact this
      · rw [if_neg q] at this ⊢
        rw [f_X10_count_b86, nI_1, nI_1]
        exact this
  exact key n FU 0 (by omega) (by unfold FU; omega)
def suS (S : Row) : Nat → Nat
  | 0 => 0
  | i + 1 => if S (20 + i) < 0 then suS S i else suS S i + 1
theorem suS_le (S : Row) : ∀ i, suS S i ≤ i := by
  intro i
  induction i with
  | zero => exact Nat.le_refl _
  | succ i ih => rw [suS]; split <;> omega
theorem surveyedC_eq {M : Mem} {S : Row} {co : Nat} (hco : co = 48 ∨ co = 80) (h : RSur (M (co + 7)) S) : f_X0_surveyedInAll co M = some (nI (suS S 9), M) := by
  have hrc := rf_co co hco
  have key : ∀ (r fuel i : Nat), i + r = 9 → r < fuel → f_X0_surveyedInAll_b4 fuel co (nI (suS S i)) (nI i) M = some (nI (suS S 9), M) := by
    intro r
    induction r with
    | zero =>
      intro fuel i hi hf
      obtain ⟨f, rfl⟩ : ∃ f, fuel = f + 1 := ⟨fuel - 1, by omega⟩
      have : i = 9 := by omega
      subst this
      rw [f_X0_surveyedInAll_b4, if_pos (by decide)]
    | succ r ih =>
      intro fuel i hi hf
      obtain ⟨f, rfl⟩ : ∃ f, fuel = f + 1 := ⟨fuel - 1, by omega⟩
      obtain ⟨e, b⟩ := h i (by omega)
      have := ih f (i + 1) (by omega) (by omega)
      rw [suS] at this
      rw [f_X0_surveyedInAll_b4, if_neg (show ¬ (9 : Int32) ≤ nI i by rw [i_lit]; exact nI_ge (by omega) (by omega)), if_pos (ixb_t (show i < 9 by omega) (by omega)), ix_nI (by omega), hrc.2.2.2.2.2.2.2.2, e]
      by_cases q : S (20 + i) < 0
      · rw [if_pos q] at this
        rw [if_pos ((uc_none b.1).mpr q), f_X0_surveyedInAll_b27, show nI (suS S i) + 0 = nI (suS S i) from Int32.add_zero _, nI_1]
        exact this
      · rw [if_neg q] at this
        rw [if_neg (fun z => q ((uc_none b.1).mp z)), f_X0_surveyedInAll_b27, nI_1, nI_1]
        exact this
  unfold f_X0_surveyedInAll f_X0_surveyedInAll_b0
  exact key 9 FU 0 (by omega) (by unfold FU; omega)
theorem surveyedM_eq (N : Mem) : f_X10_surveyed N = some (nI (suS (N 1) 9), N) := by
  have key : ∀ (r fuel i : Nat), i + r = 9 → r < fuel → f_X10_surveyed_b4 fuel (nI (suS (N 1) i)) (nI i) N = some (nI (suS (N 1) 9), N) := by
    intro r
    induction r with
    | zero =>
      intro fuel i hi hf
      obtain ⟨f, rfl⟩ : ∃ f, fuel = f + 1 := ⟨fuel - 1, by omega⟩
      have : i = 9 := by omega
      subst this
      rw [f_X10_surveyed_b4, if_pos (by decide)]
    | succ r ih =>
      intro fuel i hi hf
      obtain ⟨f, rfl⟩ : ∃ f, fuel = f + 1 := ⟨fuel - 1, by omega⟩
      have := ih f (i + 1) (by omega) (by omega)
      rw [suS] at this
      rw [f_X10_surveyed_b4, if_neg (show ¬ (9 : Int32) ≤ nI i by rw [i_lit]; exact nI_ge (by omega) (by omega)), show (20 : Int32) + nI i = nI (20 + i) from by rw [i_lit, nI_add], if_pos (ixb_t (show 20 + i < 3300 by omega) (by omega)), ix_nI (by omega)]
      by_cases q : N 1 (20 + i) < 0
      · rw [if_pos q] at this ⊢
        rw [f_X10_surveyed_b28, show nI (suS (N 1) i) + 0 = nI (suS (N 1) i) from Int32.add_zero _, nI_1]
        exact this
      · rw [if_neg q] at this ⊢
        rw [f_X10_surveyed_b28, nI_1, nI_1]
        exact this
  unfold f_X10_surveyed f_X10_surveyed_b0
  exact key 9 FU 0 (by omega) (by unfold FU; omega)
theorem tcnt_sum {S : Row} {cs : Nat → Nat} : ∀ k, (∀ j, j < k → vyOf S (cs j) < 3) → tcnt S cs 0 k + tcnt S cs 1 k + tcnt S cs 2 k = k := by
  intro k
  induction k with
  | zero => intro _; rfl
  | succ k ih =>
    intro h
    have h1 := ih (fun j hj => h j (by omega))
    have h2 := h k (by omega)
    simp only [tcnt]
    rcases (show vyOf S (cs k) = 0 ∨ vyOf S (cs k) = 1 ∨ vyOf S (cs k) = 2 by omega) with e | e | e <;> rw [e] <;> simp <;> omega
theorem chosenInAll_eq {M : Mem} {S : Row} {n t nc : Nat} {cs : Nat → Nat} (h : RV M S 48 n t) (hc : RCho (M (48 + 2)) (M (48 + 3)) S n nc cs) : f_X0_chosenInAll 48 M = some (nI nc, M) := by
  obtain ⟨-, -, c3, -, c5, -⟩ := hc
  have r4 : rfC 48 4 = 51 := (rf_co 48 (Or.inl rfl)).2.2.2.2.1
  have e0 : M 51 0 = _ := (c5 0 (by omega)).1
  have e1 : M 51 1 = _ := (c5 1 (by omega)).1
  have e2 : M 51 2 = _ := (c5 2 (by omega)).1
  have hsum := tcnt_sum (S := S) (cs := cs) nc (fun j hj => (vy_nI (h.sv.2.2.1 _ (c3 j hj).1)).2)
  unfold f_X0_chosenInAll f_X0_chosenInAll_b0 FU
  rw [f_X0_chosenInAll_b4, if_neg (by decide), if_pos (by decide), show (0 : Int32) + 1 = nI 1 from by decide, show ix (0 : Int32) = 0 from by decide, r4, e0, f_X0_chosenInAll_b4, if_neg (by decide), if_pos (by decide), show nI 1 + 1 = nI 2 from by decide, show ix (nI 1) = 1 from by decide, r4, e1, f_X0_chosenInAll_b4, if_neg (by decide), if_pos (by decide), show nI 2 + 1 = nI 3 from by decide, show ix (nI 2) = 2 from by decide, r4, e2, f_X0_chosenInAll_b4, if_pos (by decide), show (0 : Int32) = nI 0 from rfl, nI_add, nI_add, nI_add, show 0 + tcnt S cs 0 nc + tcnt S cs 1 nc + tcnt S cs 2 nc = nc by omega]
theorem q_count {M N : Mem} (h : Rel M N) (x1 : Int32) : Eqv (f_X9_count x1 M) (f_X10_count x1 N) := by
  obtain ⟨n, t, hv⟩ := RV.of (Or.inl rfl) h.1
  have hs := hv.sv
  have hn := hs.2.1
  obtain ⟨⟨n', h1, h2, nc, cs, h3⟩, ⟨t', h4, h5⟩, ⟨np, h6, h7⟩, h8, h9, h10⟩ := h.1
  have hnn : n' = n := (nI_eq (by have := h2.1; omega) (by omega)).mp (h1.symm.trans hv.2.1)
  subst hnn
  obtain ⟨tn, -, tx, ty, -⟩ := h.2.2.1
  obtain ⟨wn, -, wx, wy, -⟩ := h.2.2.2.2.2
  unfold f_X9_count f_X9_count_b0 f_X10_count f_X10_count_b0
  by_cases c0 : x1 = 0
  · rw [if_pos c0, if_pos c0, hv.2.1, hs.1]
    exact ⟨_, M, N, rfl, rfl, h⟩
  rw [if_neg c0, if_neg c0]
  by_cases c1 : x1 = 1
  · rw [if_pos c1, if_pos c1, marksPut_eq hv, countM_eq hs]
    exact ⟨_, M, N, rfl, rfl, h⟩
  rw [if_neg c1, if_neg c1]
  by_cases c2 : x1 = 2
  · rw [if_pos c2, if_pos c2, hv.2.2.2.1, hs.2.2.2.1]
    exact ⟨_, M, N, rfl, rfl, h⟩
  rw [if_neg c2, if_neg c2]
  by_cases c3 : x1 = 3
  · rw [if_pos c3, if_pos c3, h6, h7.2.1]
    exact ⟨_, M, N, rfl, rfl, h⟩
  rw [if_neg c3, if_neg c3]
  by_cases c4 : x1 = 4
  · rw [if_pos c4, if_pos c4, chosenInAll_eq hv h3, h3.1]
    exact ⟨_, M, N, rfl, rfl, h⟩
  rw [if_neg c4, if_neg c4]
  by_cases c5 : x1 = 5
  · rw [if_pos c5, if_pos c5, surveyedC_eq (Or.inl rfl) h9, surveyedM_eq]
    exact ⟨_, M, N, rfl, rfl, h⟩
  rw [if_neg c5, if_neg c5]
  by_cases c6 : x1 = 6
  · rw [if_pos c6, if_pos c6, wx, wy]
    exact ⟨_, M, N, rfl, rfl, h⟩
  rw [if_neg c6, if_neg c6]
  by_cases c7 : x1 = 7
  · rw [if_pos c7, if_pos c7, tx, ty]
    exact ⟨_, M, N, rfl, rfl, h⟩
  rw [if_neg c7, if_neg c7]
  by_cases c8 : x1 = 8
  · rw [if_pos c8, if_pos c8, h10]
    exact ⟨_, M, N, rfl, rfl, h⟩
  rw [if_neg c8, if_neg c8]
  exact ⟨_, M, N, rfl, rfl, h⟩
theorem q_clear {M N : Mem} (h : Rel M N) : Eqv (f_X9_clear M) (f_X10_clear N) := by
  obtain ⟨n, t, hv⟩ := RV.of (Or.inl rfl) h.1
  have hh := h.1
  obtain ⟨⟨n', h1, h2, nc, cs, h3⟩, -⟩ := hh
  have hnn : n' = n := (nI_eq (by have := h2.1; omega) (by have := hv.sv.2.1; omega)).mp (h1.symm.trans hv.2.1)
  subst hnn
  unfold f_X9_clear f_X9_clear_b0 f_X10_clear f_X10_clear_b0
  rw [chosenInAll_eq hv h3, show (3 : Int32) = nI 3 from rfl, becomes_eq (by omega), h3.1]
  simp only [Option.bind_some]
  unfold FU
  rw [f_X9_clear_b10, if_neg (by decide), if_pos (by decide), show (0 : Int32) + 1 = nI 1 from by decide, show ix (0 : Int32) = 0 from by decide, f_X9_clear_b10, if_neg (by decide), if_pos (by decide), show nI 1 + 1 = nI 2 from by decide, show ix (nI 1) = 1 from by decide, f_X9_clear_b10, if_neg (by decide), if_pos (by decide), show nI 2 + 1 = nI 3 from by decide, show ix (nI 2) = 2 from by decide, f_X9_clear_b10, if_pos (by decide)]
  refine ⟨_, _, _, rfl, rfl, ?_⟩
  have cM : ∀ y, y ≠ 51 → mset (mset (mset M 51 0 0) 51 1 0) 51 2 0 y = M y := fun y hy => by rw [mset_ne hy, mset_ne hy, mset_ne hy]
  have cS : ∀ k, k ≠ 3 → mset N 1 3 0 1 k = N 1 k := fun k hk => mset_k hk
  refine h.now ?_ (fun y hy => cM y (by omega)) (fun y hy => mset_ne (by omega)) (by rw [mset_ne (by omega)]) (by rw [mset_ne (by omega)]) (by rw [mset_ne (by omega)]) (by rw [cS 1 (by omega)]; exact Int.le_refl _)
  have h := h.1
  obtain ⟨⟨n', h1, h2, nc, cs, h3⟩, ⟨t', h4, h5⟩, ⟨np, h6, h7⟩, h8, h9, h10⟩ := h
  have hn := h2.1
  have htt := h5.1
  refine ⟨⟨n', (by rw [cM 48 (by omega)]; exact h1), ((h2.cg (fun i hi => cM _ (by omega))).cgS (cS _ (by omega)) (fun k _ _ => cS _ (by omega))), 0, cs, ?_⟩, ⟨t', (by rw [cM 48 (by omega)]; exact h4), ((h5.cg (fun j hj => ⟨cM _ (by omega), cM _ (by omega)⟩)).cgS (cS _ (by omega)) (fun k _ _ => cS _ (by omega)))⟩, ⟨np, (by rw [cM 48 (by omega)]; exact h6), (by rw [cM (48 + 4) (by omega)]; exact h7.cgS (cS _ (by omega)) (fun k _ _ => cS _ (by omega)))⟩, (by rw [cM (48 + 5) (by omega), cM (48 + 6) (by omega)]; exact h8.cgS (fun k _ _ => cS _ (by omega))), (by rw [cM (48 + 7) (by omega)]; exact h9.cgS (fun k _ _ => cS _ (by omega))), (by rw [cM 48 (by omega), cS 4 (by omega)]; exact h10)⟩
  refine ⟨mset_at _ _ _ _, by omega, fun k hk => absurd hk (Nat.not_lt_zero k), fun k _ hk => absurd hk (Nat.not_lt_zero k), fun v hv => ?_, fun k hk => absurd hk (Nat.not_lt_zero k)⟩
  refine ⟨?_, Nat.zero_le _⟩
  show mset (mset (mset M 51 0 0) 51 1 0) 51 2 0 51 v = 0
  rcases (show v = 0 ∨ v = 1 ∨ v = 2 by omega) with rfl | rfl | rfl
  · rw [mset_k (by omega), mset_k (by omega), mset_at]
  · rw [mset_k (by omega), mset_at]
  · rw [mset_at]
