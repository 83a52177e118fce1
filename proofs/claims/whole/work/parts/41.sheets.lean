/-! SHEETS, SLOTS, WAITING NUMBERS, THE TAPE: frames -/
theorem Rel.she {M M' N N' : Mem} (h : Rel M N) (hS : RShe M' (N' 4) (N' 5) (N' 6)) (hM : ∀ x, (x < 3 ∨ (14 ≤ x ∧ x ≠ 16 ∧ x ≠ 47)) → (x < 112 ∨ 120 ≤ x) → M' x = M x) (hN : ∀ x, (1 ≤ x ∧ x ≤ 12 ∧ x ≠ 3) ∨ x = 22 → x ≠ 4 → x ≠ 5 → x ≠ 6 → N' x = N x) (h3 : N' 0 3 = N 0 3) (h13 : N' 0 13 = N 0 13) (h45 : N' 0 45 = N 0 45) : Rel M' N' := by
  obtain ⟨h1, ⟨h2, h2'⟩, h4, h5, h6, h7⟩ := h
  have c0 := hM 0 (by omega) (by omega)
  have n1 := hN 1 (by omega) (by omega) (by omega) (by omega)
  refine ⟨?_, ⟨by rw [c0, h3]; exact h2, ?_⟩, ?_, hS, ?_, ?_⟩
  · rw [n1]
    exact h1.cg (hM _ (by omega) (by omega)) (fun x _ _ => hM x (by omega) (by omega)) (fun x _ _ => hM x (by omega) (by omega))
  · rw [h3, n1, hN 2 (by omega) (by omega) (by omega) (by omega)]
    rcases h2' with a | ⟨a, b, c⟩
    · exact Or.inl a
    · exact Or.inr ⟨a, b.cg (hM _ (by omega) (by omega)) (fun x _ _ => hM x (by omega) (by omega)) (fun x _ _ => hM x (by omega) (by omega)), c⟩
  · rw [hM 2 (by omega) (by omega), hM 1 (by omega) (by omega), hN 12 (by omega) (by omega) (by omega) (by omega), h13]; exact h4
  · rw [hN 7 (by omega) (by omega) (by omega) (by omega), hN 8 (by omega) (by omega) (by omega) (by omega), hN 9 (by omega) (by omega) (by omega) (by omega), hN 10 (by omega) (by omega) (by omega) (by omega), hN 11 (by omega) (by omega) (by omega) (by omega)]; exact h6.cg (fun x _ _ => hM x (by omega) (by omega))
  · rw [hM 17 (by omega) (by omega), c0, hN 22 (by omega) (by omega) (by omega) (by omega), h45]; exact h7
theorem Rel.slo {M M' N N' : Mem} (h : Rel M N) (hS : RSlo M' (N' 7) (N' 8) (N' 9) (N' 10) (N' 11)) (hM : ∀ x, (x < 3 ∨ (14 ≤ x ∧ x ≠ 16 ∧ x ≠ 47)) → x < 120 → M' x = M x) (hN : ∀ x, (1 ≤ x ∧ x ≤ 12 ∧ x ≠ 3) ∨ x = 22 → (x < 7 ∨ 11 < x) → N' x = N x) (h3 : N' 0 3 = N 0 3) (h13 : N' 0 13 = N 0 13) (h45 : N' 0 45 = N 0 45) : Rel M' N' := by
  obtain ⟨h1, ⟨h2, h2'⟩, h4, h5, h6, h7⟩ := h
  have c0 := hM 0 (by omega) (by omega)
  have n1 := hN 1 (by omega) (by omega)
  refine ⟨?_, ⟨by rw [c0, h3]; exact h2, ?_⟩, ?_, ?_, hS, ?_⟩
  · rw [n1]
    exact h1.cg (hM _ (by omega) (by omega)) (fun x _ _ => hM x (by omega) (by omega)) (fun x _ _ => hM x (by omega) (by omega))
  · rw [h3, n1, hN 2 (by omega) (by omega)]
    rcases h2' with a | ⟨a, b, c⟩
    · exact Or.inl a
    · exact Or.inr ⟨a, b.cg (hM _ (by omega) (by omega)) (fun x _ _ => hM x (by omega) (by omega)) (fun x _ _ => hM x (by omega) (by omega)), c⟩
  · rw [hM 2 (by omega) (by omega), hM 1 (by omega) (by omega), hN 12 (by omega) (by omega), h13]; exact h4
  · rw [hN 4 (by omega) (by omega), hN 5 (by omega) (by omega), hN 6 (by omega) (by omega)]; exact h5.cg (fun x _ _ => hM x (by omega) (by omega))
  · rw [hM 17 (by omega) (by omega), c0, hN 22 (by omega) (by omega), h45]; exact h7
/-- waiting numbers and tape: cells 0, 1, 2, 17 of the class; 0, 12, 22 of the model -/
theorem Rel.wt {M M' N N' : Mem} (h : Rel M N) (hT : RTape (M' 2) (N' 12) (M' 1 1) (N' 0 13)) (hW : RWai (M' 17) (N' 22) (M' 0 10) (N' 0 45)) (h11 : M' 0 11 = M 0 11) (h3 : N' 0 3 = N 0 3) (hM : ∀ x, 18 ≤ x → x ≠ 47 → M' x = M x) (hN : ∀ x, (1 ≤ x ∧ x ≤ 11 ∧ x ≠ 3) → N' x = N x) : Rel M' N' := by
  obtain ⟨h1, ⟨h2, h2'⟩, h4, h5, h6, h7⟩ := h
  have n1 := hN 1 (by omega)
  refine ⟨?_, ⟨by rw [h11, h3]; exact h2, ?_⟩, hT, ?_, ?_, hW⟩
  · rw [n1]
    exact h1.cg (hM _ (by omega) (by omega)) (fun x _ _ => hM x (by omega) (by omega)) (fun x _ _ => hM x (by omega) (by omega))
  · rw [h3, n1, hN 2 (by omega)]
    rcases h2' with a | ⟨a, b, c⟩
    · exact Or.inl a
    · exact Or.inr ⟨a, b.cg (hM _ (by omega) (by omega)) (fun x _ _ => hM x (by omega) (by omega)) (fun x _ _ => hM x (by omega) (by omega)), c⟩
  · rw [hN 4 (by omega), hN 5 (by omega), hN 6 (by omega)]; exact h5.cg (fun x _ _ => hM x (by omega) (by omega))
  · rw [hN 7 (by omega), hN 8 (by omega), hN 9 (by omega), hN 10 (by omega), hN 11 (by omega)]; exact h6.cg (fun x _ _ => hM x (by omega) (by omega))
theorem q_tell {M N : Mem} (h : Rel M N) (x1 : Int32) : Eqv (f_X9_tell x1 M) (f_X10_tell x1 N) := by
  obtain ⟨n, hn, ex, ey, hw⟩ := h.2.2.2.2.2
  unfold f_X9_tell f_X9_tell_b0 f_X10_tell f_X10_tell_b0
  rw [ex, ey]
  by_cases q : n = 60
  · subst q
    rw [if_neg (by decide), if_pos (by decide)]
    exact ⟨_, M, N, rfl, rfl, h⟩
  · rw [if_pos (show nI n < 60 from by rw [i_lit]; exact nI_lt (by omega) (by omega)), if_neg (show ¬ nI n = 60 from by rw [i_lit]; exact nI_ne (by omega) (by omega) q), if_pos (ixb_t (show n < 60 by omega) (by omega)), if_pos (ixb_t (show n < 60 by omega) (by omega)), ix_nI (by omega), mset_at, mset_at, mset_ne (show (0 : Nat) ≠ 17 by omega), mset_ne (show (0 : Nat) ≠ 22 by omega), ex, ey, nI_1]
    refine ⟨_, _, _, rfl, rfl, h.wt ?_ ?_ ?_ ?_ ?_ ?_⟩
    · rw [mset_ne (by omega), mset_ne (by omega), mset_ne (by omega), mset_ne (by omega), mset_ne (by omega), mset_ne (by omega), mset_k (by omega), mset_ne (by omega)]
      exact h.2.2.1
    · rw [mset_at, mset_at, mset_ne (show (17 : Nat) ≠ 0 by omega), mset_ne (show (22 : Nat) ≠ 0 by omega), mset_self, mset_self]
      refine ⟨n + 1, by omega, rfl, rfl, fun i hi => ?_⟩
      unfold upd
      by_cases z : i = n
      · rw [if_pos z, if_pos z]
      · rw [if_neg z, if_neg z]
        exact hw i (by omega)
    · rw [mset_k (by omega), mset_ne (by omega)]
    · rw [mset_k (by omega), mset_ne (by omega)]
    · intro x a b
      rw [mset_ne (by omega), mset_ne (by omega)]
    · intro x a
      rw [mset_ne (by omega), mset_ne (by omega)]
theorem q_trim {M N : Mem} (h : Rel M N) (x1 : Int32) : Eqv (f_X9_trim x1 M) (f_X10_trim x1 N) := by
  obtain ⟨n, hn, ex, ey, ht⟩ := h.2.2.1
  unfold f_X9_trim f_X9_trim_b0 f_X10_trim f_X10_trim_b0
  rw [ex, ey]
  rw [isWithinN x1 0 (nI n) 0 n (by decide) (nI_toInt (by omega)), isInN x1 0 (nI n).toInt64 0 n (by decide) (by rw [l_of]; exact nI_toInt (by omega))]
  simp only [Option.bind_some, b2i_eq0]
  by_cases hk : 0 ≤ x1.toInt ∧ x1.toInt ≤ (n : Int)
  rotate_left
  · rw [if_pos hk, if_pos (show ¬ (0 ≤ x1.toInt ∧ x1.toInt ≤ (n : Int)) by omega)]
    exact ⟨_, M, N, rfl, rfl, h⟩
  rw [if_neg (nn hk), if_neg (nn (show 0 ≤ x1.toInt ∧ x1.toInt ≤ (n : Int) by omega))]
  obtain ⟨k, hk2, rfl⟩ := i_of (n := n + 1) hk.1 (by omega)
  refine ⟨_, _, _, rfl, rfl, h.wt ?_ ?_ ?_ ?_ ?_ ?_⟩
  · rw [mset_ne (by omega), mset_ne (by omega), mset_at, mset_at]
    exact ⟨k, by omega, rfl, rfl, fun i hi => ht i (by omega)⟩
  · rw [mset_ne (by omega), mset_ne (by omega), mset_ne (by omega), mset_k (by omega)]
    exact h.2.2.2.2.2
  · rw [mset_ne (by omega)]
  · rw [mset_k (by omega)]
  · intro x a b
    rw [mset_ne (by omega)]
  · intro x a
    rw [mset_ne (by omega)]
theorem isSheet_eq (x : Int32) (N : Mem) : f_X10_isSheet x N = some (b2i (0 ≤ x.toInt ∧ x.toInt < 4), N) := by
  unfold f_X10_isSheet f_X10_isSheet_b0
  rw [isIn_eq]
  simp only [Option.bind_some, b2i_z01, if_true]
  have h0 : (0 : Int64).toInt = 0 := by decide
  have h2 : (3 : Int64).toInt = 3 := by decide
  rw [h0, h2]
  congr 2
  exact b2i_congr (by omega)
theorem isSlot_eq (x : Int32) (N : Mem) : f_X10_isSlot x N = some (b2i (0 ≤ x.toInt ∧ x.toInt < 5), N) := by
  unfold f_X10_isSlot f_X10_isSlot_b0
  rw [isIn_eq]
  simp only [Option.bind_some, b2i_z01, if_true]
  have h0 : (0 : Int64).toInt = 0 := by decide
  have h2 : (4 : Int64).toInt = 4 := by decide
  rw [h0, h2]
  congr 2
  exact b2i_congr (by omega)
theorem sort_m1 {x : Int32} (h : -1 ≤ x.toInt ∧ x.toInt ≤ 1) : (x = -1) ↔ ¬ 0 ≤ x := by
  rw [i_eq, i_le, i_0]
  have : (-1 : Int32).toInt = -1 := by decide
  rw [this]
  omega
theorem isMissing_eq {M : Mem} {a : Nat} {x : Int32} (e : M a 0 = x) (h : -1 ≤ x.toInt ∧ x.toInt ≤ 1) : f_X6_isMissing a M = some (b2i (¬ 0 ≤ x), M) := by
  unfold f_X6_isMissing f_X6_isMissing_b0 b2i
  rw [e]
  by_cases q : x = -1
  · rw [if_pos q, if_pos ((sort_m1 h).mp q)]
  · rw [if_neg q, if_neg (fun z => q ((sort_m1 h).mpr z))]
/-- a sheet becomes a row of zeros -/
theorem become_eq {M : Mem} {k : Nat} (hk : k < 4) (so sz : Int32) : ∃ M', f_X6_become (112 + 2 * k) so sz M = some (0, M') ∧ M' (112 + 2 * k) 0 = so ∧ M' (112 + 2 * k) 1 = sz ∧ (∀ i, i < 24 → M' (113 + 2 * k) i = 0) ∧ ∀ x, x ≠ 112 + 2 * k → x ≠ 113 + 2 * k → M' x = M x := by
  obtain ⟨-, r2⟩ := rf_sh k hk
  have key : ∀ (r fuel i : Nat) (M1 : Mem), i + r = 24 → r < fuel → (∀ j, j < i → M1 (113 + 2 * k) j = 0) → ∃ M', f_X6_become_b12 fuel (112 + 2 * k) (nI i) M1 = some (0, M') ∧ (∀ i, i < 24 → M' (113 + 2 * k) i = 0) ∧ ∀ x, x ≠ 113 + 2 * k → M' x = M1 x := by
    intro r
    induction r with
    | zero =>
      intro fuel i M1 hi hf hz
      obtain ⟨f, rfl⟩ : ∃ f, fuel = f + 1 := ⟨fuel - 1, by omega⟩
      have : i = 24 := by omega
      subst this
      rw [f_X6_become_b12, if_pos (by decide)]
      exact ⟨M1, rfl, hz, fun _ _ => rfl⟩
    | succ r ih =>
      intro fuel i M1 hi hf hz
      obtain ⟨f, rfl⟩ : ∃ f, fuel = f + 1 := ⟨fuel - 1, by omega⟩
      rw [f_X6_become_b12, if_neg (show ¬ (24 : Int32) ≤ nI i by rw [i_lit]; exact nI_ge (by omega) (by omega)), if_pos (ixb_t (by omega) (by omega)), ix_nI (by omega), r2, nI_1]
      obtain ⟨M', e, a, b⟩ := ih f (i + 1) (mset M1 (113 + 2 * k) i 0) (by omega) (by omega) (fun j hj => by
        rw [mset_self]
        unfold upd
        by_cases q : j = i
        · rw [if_pos q]
        · rw [if_neg q]; exact hz j (by omega))
      exact ⟨M', e, a, fun x hx => (b x hx).trans (mset_ne hx)⟩
  unfold f_X6_become f_X6_become_b0
  obtain ⟨M', e, a, b⟩ := key 24 FU 0 (mset (mset M (112 + 2 * k) 0 so) (112 + 2 * k) 1 sz) (by omega) (by unfold FU; omega) (fun j hj => absurd hj (Nat.not_lt_zero j))
  refine ⟨M', e, ?_, ?_, a, fun x h1 h2 => ?_⟩
  · rw [b _ (by omega), mset_k (by omega), mset_at]
  · rw [b _ (by omega), mset_at]
  · rw [b x h2, mset_ne h1, mset_ne h1]
theorem sheetM_eq {N : Mem} {k : Nat} (hk : k < 4) : ∃ N', f_X10_sheet_b69 FU (nI k) 0 N = some (N 5 k, N') ∧ (∀ i, i < 24 → N' 6 (24 * k + i) = 0) ∧ (∀ j, (j < 24 * k ∨ 24 * k + 24 ≤ j) → N' 6 j = N 6 j) ∧ ∀ x, x ≠ 6 → N' x = N x := by
  have key : ∀ (r fuel i : Nat) (N1 : Mem), i + r = 24 → r < fuel → (∀ j, j < i → N1 6 (24 * k + j) = 0) → (∀ j, (j < 24 * k ∨ 24 * k + 24 ≤ j) → N1 6 j = N 6 j) → (∀ x, x ≠ 6 → N1 x = N x) → ∃ N', f_X10_sheet_b69 fuel (nI k) (nI i) N1 = some (N 5 k, N') ∧ (∀ i, i < 24 → N' 6 (24 * k + i) = 0) ∧ (∀ j, (j < 24 * k ∨ 24 * k + 24 ≤ j) → N' 6 j = N 6 j) ∧ ∀ x, x ≠ 6 → N' x = N x := by
    intro r
    induction r with
    | zero =>
      intro fuel i N1 hi hf hz ho hx
      obtain ⟨f, rfl⟩ : ∃ f, fuel = f + 1 := ⟨fuel - 1, by omega⟩
      have : i = 24 := by omega
      subst this
      rw [f_X10_sheet_b69, if_pos (by decide), f_X10_sheet_b95, if_pos (ixb_t hk (by omega)), ix_nI (by omega), hx 5 (by omega)]
      exact ⟨N1, rfl, hz, ho, hx⟩
    | succ r ih =>
      intro fuel i N1 hi hf hz ho hx
      obtain ⟨f, rfl⟩ : ∃ f, fuel = f + 1 := ⟨fuel - 1, by omega⟩
      rw [f_X10_sheet_b69, if_neg (show ¬ (24 : Int32) ≤ nI i by rw [i_lit]; exact nI_ge (by omega) (by omega)), show (24 : Int32) * nI k + nI i = nI (24 * k + i) from by rw [i_lit, nI_mul, nI_add], if_pos (ixb_t (show 24 * k + i < 96 by omega) (by omega)), ix_nI (by omega), nI_1]
      refine ih f (i + 1) _ (by omega) (by omega) (fun j hj => ?_) (fun j hj => ?_) (fun x h => by rw [mset_ne h]; exact hx x h)
      · rw [mset_self]
        unfold upd
        by_cases q : j = i
        · rw [if_pos (by omega)]
        · rw [if_neg (by omega)]; exact hz j (by omega)
      · rw [mset_k (by omega)]; exact ho j hj
  exact key 24 FU 0 N (by omega) (by unfold FU; omega) (fun j hj => absurd hj (Nat.not_lt_zero j)) (fun _ _ => rfl) (fun _ _ => rfl)
theorem RShe.one {M M' : Mem} {a b c a' b' c' : Row} {k : Nat} (h : RShe M a b c) (hk : k < 4) (hM : ∀ x, x ≠ 112 + 2 * k → x ≠ 113 + 2 * k → M' x = M x) (ha : ∀ j, j ≠ k → a' j = a j) (hb : ∀ j, j ≠ k → b' j = b j) (hc : ∀ j, (j < 24 * k ∨ 24 * k + 24 ≤ j) → c' j = c j) (hn : M' (112 + 2 * k) 0 = a' k ∧ M' (112 + 2 * k) 1 = b' k ∧ (-1 ≤ (a' k).toInt ∧ (a' k).toInt ≤ 1) ∧ (∃ n, n ≤ 24 ∧ b' k = nI n) ∧ ∀ i, i < 24 → M' (113 + 2 * k) i = c' (24 * k + i)) : RShe M' a' b' c' := by
  intro j hj
  by_cases q : j = k
  · subst q
    exact hn
  · obtain ⟨h1, h2, h3, h4, h5⟩ := h j hj
    rw [hM (112 + 2 * j) (by omega) (by omega), hM (113 + 2 * j) (by omega) (by omega), ha j q, hb j q]
    exact ⟨h1, h2, h3, h4, fun i hi => by rw [hc _ (by omega)]; exact h5 i hi⟩
theorem q_sheet {M N : Mem} (h : Rel M N) (x1 x2 x3 : Int32) : Eqv (f_X9_sheet x1 x2 x3 M) (f_X10_sheet x1 x2 x3 N) := by
  unfold f_X9_sheet f_X9_sheet_b0 f_X10_sheet f_X10_sheet_b0
  rw [isBelowN x1 4 4 (by decide), isSheet_eq]
  simp only [Option.bind_some, b2i_eq0]
  by_cases hc : 0 ≤ x1.toInt ∧ x1.toInt < 4
  rotate_left
  · rw [if_pos hc, if_pos (show ¬ (0 ≤ x1.toInt ∧ x1.toInt < 4) by omega)]
    exact ⟨_, M, N, rfl, rfl, h⟩
  rw [if_neg (nn hc), if_neg (nn (show 0 ≤ x1.toInt ∧ x1.toInt < 4 by omega))]
  rw [isWithinN x2 (-1) 1 (-1) 1 (by decide) (by decide), isInN x2 (-1) 1 (-1) 1 (by decide) (by decide)]
  simp only [Option.bind_some, b2i_eq0]
  by_cases hk : -1 ≤ x2.toInt ∧ x2.toInt ≤ 1
  rotate_left
  · rw [if_pos hk, if_pos (show ¬ (-1 ≤ x2.toInt ∧ x2.toInt ≤ 1) by omega)]
    exact ⟨_, M, N, rfl, rfl, h⟩
  rw [if_neg (nn hk), if_neg (nn (show -1 ≤ x2.toInt ∧ x2.toInt ≤ 1 by omega))]
  obtain ⟨k, hk4, rfl⟩ := i_of (n := 4) hc.1 hc.2
  obtain ⟨r1, r2⟩ := rf_sh k hk4
  have fin : ∀ s : Int32, (∃ n, n ≤ 24 ∧ s = nI n) → Eqv (f_X9_sheet_b30 (nI k) x2 s M) (f_X10_sheet_b65 (nI k) s (nI k) (mset N 4 (ix (nI k)) x2)) := by
    intro s ⟨n, hn, es⟩
    unfold f_X9_sheet_b30 f_X10_sheet_b65
    rw [if_pos (show s ≤ 24 from by rw [es, i_lit]; exact nI_le hn (by omega)), if_pos (show 0 ≤ s from by rw [es]; exact nI_pos' (by omega)), if_pos (ixb_t hk4 (by omega)), if_pos (ixb_t hk4 (by omega)), ix_nI (by omega), r1]
    obtain ⟨M', e1, a1, a2, a3, a4⟩ := become_eq (M := M) hk4 x2 s
    obtain ⟨N', e2, b1, b2, b3⟩ := sheetM_eq (N := mset (mset N 4 k x2) 5 k s) hk4
    rw [e1, e2, mset_at]
    simp only [Option.bind_some]
    have nx : ∀ y, y ≠ 4 → y ≠ 5 → y ≠ 6 → N' y = N y := fun y p1 p2 p3 => by rw [b3 y p3, mset_ne p2, mset_ne p1]
    refine ⟨_, M', N', rfl, rfl, h.she ?_ (fun y p1 p2 => a4 y (by omega) (by omega)) (fun y p1 p2 p3 p4 => nx y p2 p3 p4) (by rw [nx 0 (by omega) (by omega) (by omega)]) (by rw [nx 0 (by omega) (by omega) (by omega)]) (by rw [nx 0 (by omega) (by omega) (by omega)])⟩
    have n4 : N' 4 = upd (N 4) k x2 := by rw [b3 4 (by omega), mset_ne (by omega), mset_self]
    have n5 : N' 5 = upd (N 5) k s := by rw [b3 5 (by omega), mset_self, mset_ne (by omega)]
    refine h.2.2.2.1.one hk4 a4 (fun j hj => by rw [n4, upd_ne hj]) (fun j hj => by rw [n5, upd_ne hj]) (fun j hj => by rw [b2 j hj, mset_ne (by omega), mset_ne (by omega)]) ⟨by rw [a1, n4, upd_at], by rw [a2, n5, upd_at], by rw [n4, upd_at]; exact hk, ⟨n, hn, by rw [n5, upd_at, es]⟩, fun i hi => by rw [a3 i hi, b1 i hi]⟩
  by_cases q : x2 = -1
  · have q' : x2 < 0 := by rw [q]; decide
    rw [if_pos q, if_pos q', f_X10_sheet_b32, if_pos q', f_X10_sheet_b44, if_pos (ixb_t hk4 (by omega)), if_neg (show ¬ 0 ≤ x2 by rw [q]; decide)]
    exact fin 0 ⟨0, by omega, rfl⟩
  · have q0 : 0 ≤ x2.toInt := by
      rcases (show x2.toInt = -1 ∨ 0 ≤ x2.toInt by omega) with z | z
      · exact absurd (by rw [i_eq, z]; rfl) q
      · exact z
    have q' : ¬ x2 < 0 := by rw [i_lt, i_0]; omega
    have q2 : 0 ≤ x2 := by rw [i_le, i_0]; exact q0
    rw [if_neg q, if_neg q']
    have e24 : (24 : Int32).toInt = 24 := by decide
    by_cases p : x3 ≤ 24
    · rw [if_pos p, f_X10_sheet_b32, if_neg q']
      by_cases p2 : 0 ≤ x3
      · rw [if_pos p2, f_X10_sheet_b44, if_pos (ixb_t hk4 (by omega)), if_pos q2]
        rw [i_le, e24] at p
        rw [i_le, i_0] at p2
        obtain ⟨n, hn, en⟩ := i_of (n := 25) p2 (by omega)
        exact fin x3 ⟨n, by omega, en⟩
      · rw [if_neg p2, f_X9_sheet_b30, if_pos p, if_neg p2]
        exact ⟨_, M, N, rfl, rfl, h⟩
    · rw [if_neg p, f_X9_sheet_b30, if_neg p]
      exact ⟨_, M, N, rfl, rfl, h⟩
theorem q_write {M N : Mem} (h : Rel M N) (x1 x2 x3 : Int32) : Eqv (f_X9_write x1 x2 x3 M) (f_X10_write x1 x2 x3 N) := by
  unfold f_X9_write f_X9_write_b0 f_X10_write f_X10_write_b0
  rw [isBelowN x1 4 4 (by decide), isSheet_eq]
  simp only [Option.bind_some, b2i_eq0]
  by_cases hc : 0 ≤ x1.toInt ∧ x1.toInt < 4
  rotate_left
  · rw [if_pos hc, if_pos (show ¬ (0 ≤ x1.toInt ∧ x1.toInt < 4) by omega)]
    exact ⟨_, M, N, rfl, rfl, h⟩
  rw [if_neg (nn hc), if_neg (nn (show 0 ≤ x1.toInt ∧ x1.toInt < 4 by omega))]
  obtain ⟨k, hk4, rfl⟩ := i_of (n := 4) hc.1 hc.2
  obtain ⟨r1, r2⟩ := rf_sh k hk4
  obtain ⟨s0, s1, sb, ⟨n, hn, en⟩, sr⟩ := h.2.2.2.1 k hk4
  rw [if_pos (ixb_t hk4 (by omega)), if_pos (ixb_t hk4 (by omega)), ix_nI (by omega), r1, isMissing_eq s0 sb]
  simp only [Option.bind_some, b2i_eq0]
  by_cases q : 0 ≤ N 4 k
  rotate_left
  · rw [if_neg (nn q), if_neg q]
    exact ⟨_, M, N, rfl, rfl, h⟩
  rw [if_pos (nn q), if_pos q, s1, en, if_pos (ixb_t hk4 (by omega))]
  rw [isBelowN x2 (nI n) n (nI_toInt (by omega)), isInN x2 0 (nI n - 1).toInt64 0 ((n : Int) - 1) (by decide) (by rw [l_of]; exact i_pred (by omega))]
  simp only [Option.bind_some, b2i_eq0]
  by_cases hp : 0 ≤ x2.toInt ∧ x2.toInt < (n : Int)
  rotate_left
  · rw [if_pos hp, if_pos (show ¬ (0 ≤ x2.toInt ∧ x2.toInt ≤ (n : Int) - 1) by omega)]
    exact ⟨_, M, N, rfl, rfl, h⟩
  rw [if_neg (nn hp), if_neg (nn (show 0 ≤ x2.toInt ∧ x2.toInt ≤ (n : Int) - 1 by omega))]
  obtain ⟨p, hpn, rfl⟩ := i_of hp.1 hp.2
  have fin : Eqv (f_X9_write_b78 (nI p) x3 (112 + 2 * k) M) (f_X10_write_b78 (nI k) (nI p) x3 N) := by
    unfold f_X9_write_b78 f_X10_write_b78
    rw [if_pos (ixb_t (show p < 24 by omega) (by omega)), ix_nI (by omega), r2, show (24 : Int32) * nI k + nI p = nI (24 * k + p) from by rw [i_lit, nI_mul, nI_add], if_pos (ixb_t (show 24 * k + p < 96 by omega) (by omega)), ix_nI (by omega)]
    have cN : ∀ y, y ≠ 6 → mset N 6 (24 * k + p) x3 y = N y := fun y hy => mset_ne hy
    refine ⟨_, _, _, rfl, rfl, h.she ?_ (fun y p1 p2 => mset_ne (by omega)) (fun y p1 p2 p3 p4 => cN y p4) (by rw [cN 0 (by omega)]) (by rw [cN 0 (by omega)]) (by rw [cN 0 (by omega)])⟩
    rw [cN 4 (by omega), cN 5 (by omega), mset_self]
    refine h.2.2.2.1.one hk4 (fun y p1 p2 => mset_ne p2) (fun _ _ => rfl) (fun _ _ => rfl) (fun j hj => upd_ne (by omega)) ⟨by rw [mset_ne (by omega)]; exact s0, by rw [mset_ne (by omega)]; exact s1, sb, ⟨n, hn, en⟩, fun i hi => ?_⟩
    rw [mset_self]
    unfold upd
    by_cases z : i = p
    · rw [if_pos z, if_pos (by omega)]
    · rw [if_neg z, if_neg (by omega)]
      exact sr i hi
  rw [if_pos (ixb_t hk4 (by omega)), s0]
  by_cases q1 : N 4 k = 1
  · rw [if_pos q1, if_pos q1]
    by_cases q3 : x3 = (-1000000005 : Int32)
    · rw [if_pos q3, if_pos q3]
      exact fin
    · rw [if_neg q3, if_neg q3]
      rw [isWithinN x3 (-99999) 99999 (-99999) 99999 (by decide) (by decide), isInN x3 (-99999) 99999 (-99999) 99999 (by decide) (by decide)]
      simp only [Option.bind_some, b2i_eq0]
      by_cases hz : -99999 ≤ x3.toInt ∧ x3.toInt ≤ 99999
      rotate_left
      · rw [if_pos hz, if_pos (show ¬ (-99999 ≤ x3.toInt ∧ x3.toInt ≤ 99999) by omega)]
        exact ⟨_, M, N, rfl, rfl, h⟩
      rw [if_neg (nn hz), if_neg (nn (show -99999 ≤ x3.toInt ∧ x3.toInt ≤ 99999 by omega))]
      exact fin
  · rw [if_neg q1, if_neg q1]
    exact fin
