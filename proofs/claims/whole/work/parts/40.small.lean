/-! SURVEYS, CLOCKS, z, MARKS MADE -/
theorem q_survey {M N : Mem} (h : Rel M N) (x1 x2 : Int32) : Eqv (f_X9_survey x1 x2 M) (f_X10_survey x1 x2 N) := by
  unfold f_X9_survey f_X9_survey_b0 f_X10_survey f_X10_survey_b0
  rw [isBelowN x1 9 9 (by decide), isCape_eq]
  simp only [Option.bind_some, b2i_eq0]
  by_cases hc : 0 ≤ x1.toInt ∧ x1.toInt < 9
  rotate_left
  · rw [if_pos hc, if_pos (show ¬ (0 ≤ x1.toInt ∧ x1.toInt < 9) by omega)]
    exact ⟨_, M, N, rfl, rfl, h⟩
  rw [if_neg (nn hc), if_neg (nn (show 0 ≤ x1.toInt ∧ x1.toInt < 9 by omega))]
  rw [isBelowN x2 1000 1000 (by decide), isInN x2 0 999 0 999 (by decide) (by decide)]
  simp only [Option.bind_some, b2i_eq0]
  by_cases hk : 0 ≤ x2.toInt ∧ x2.toInt < 1000
  rotate_left
  · rw [if_pos hk, if_pos (show ¬ (0 ≤ x2.toInt ∧ x2.toInt ≤ 999) by omega)]
    exact ⟨_, M, N, rfl, rfl, h⟩
  rw [if_neg (nn hk), if_neg (nn (show 0 ≤ x2.toInt ∧ x2.toInt ≤ 999 by omega))]
  obtain ⟨c, hc9, rfl⟩ := i_of (n := 9) hc.1 hc.2
  obtain ⟨sv, sb⟩ := h.1.2.2.2.2.1 c hc9
  have sv : M 55 c = uc (N 1 (20 + c)) := sv
  rw [if_pos (ixb_t hc9 (by omega)), if_pos (ixb_t hc9 (by omega)), ix_nI (by omega), show (20 : Int32) + nI c = nI (20 + c) from by rw [i_lit, nI_add], becomes_eq (by omega)]
  simp only [Option.bind_some, orNone_eq]
  rw [sv]
  refine ⟨_, _, _, rfl, rfl, h.set1 (by omega) ?_ (by omega)⟩
  have h := h.1
  have cM : ∀ y, y ≠ 55 → mset M 55 c x2 y = M y := fun y hy => mset_ne hy
  have cS : ∀ k, k ≠ 20 + c → upd (N 1) (20 + c) x2 k = N 1 k := fun k hk => upd_ne hk
  obtain ⟨⟨n', h1, h2, nc, cs, h3⟩, ⟨t', h4, h5⟩, ⟨np, h6, h7⟩, h8, h9, h10⟩ := h
  have hn := h2.1
  have htt := h5.1
  refine ⟨⟨n', (by rw [cM 48 (by omega)]; exact h1), ((h2.cg (fun i hi => cM _ (by omega))).cgS (cS _ (by omega)) (fun k _ _ => cS _ (by omega))), nc, cs, (by rw [cM (48 + 2) (by omega), cM (48 + 3) (by omega)]; exact h3.cgS (cS _ (by omega)) (fun k _ _ => cS _ (by omega)) (fun i' _ => cS _ (by omega)))⟩, ⟨t', (by rw [cM 48 (by omega)]; exact h4), ((h5.cg (fun j hj => ⟨cM _ (by omega), cM _ (by omega)⟩)).cgS (cS _ (by omega)) (fun k _ _ => cS _ (by omega)))⟩, ⟨np, (by rw [cM 48 (by omega)]; exact h6), (by rw [cM (48 + 4) (by omega)]; exact h7.cgS (cS _ (by omega)) (fun k _ _ => cS _ (by omega)))⟩, (by rw [cM (48 + 5) (by omega), cM (48 + 6) (by omega)]; exact h8.cgS (fun k _ _ => cS _ (by omega))), ?_, (by rw [cM 48 (by omega), cS 4 (by omega)]; exact h10)⟩
  intro k hk9
  show mset M 55 c x2 55 k = _ ∧ _
  rw [mset_self]
  unfold upd
  by_cases q : k = c
  · rw [if_pos q, if_pos (by omega)]
    refine ⟨?_, by omega, by omega⟩
    unfold uc
    rw [if_pos (by rw [i_le, i_0]; omega)]
  · rw [if_neg q, if_neg (by omega)]
    exact h9 k hk9
theorem q_seed {M N : Mem} (h : Rel M N) (x1 : Int32) : Eqv (f_X9_seed x1 M) (f_X10_seed x1 N) := by
  unfold f_X9_seed f_X9_seed_b0 f_X10_seed f_X10_seed_b0
  rw [show (4 : Int32) = nI 4 from rfl, becomes_eq (by omega)]
  simp only [Option.bind_some]
  rw [h.1.2.2.2.2.2]
  refine ⟨_, _, _, rfl, rfl, h.set1 (by omega) ?_ (by omega)⟩
  have h := h.1
  have cM : ∀ y, y ≠ 48 → mset M 48 12 x1 y = M y := fun y hy => mset_ne hy
  have c48 : ∀ k, k ≠ 12 → mset M 48 12 x1 48 k = M 48 k := fun k hk => mset_k hk
  have cS : ∀ k, k ≠ 4 → upd (N 1) 4 x1 k = N 1 k := fun k hk => upd_ne hk
  obtain ⟨⟨n', h1, h2, nc, cs, h3⟩, ⟨t', h4, h5⟩, ⟨np, h6, h7⟩, h8, h9, h10⟩ := h
  have hn := h2.1
  have htt := h5.1
  refine ⟨⟨n', (by rw [c48 9 (by omega)]; exact h1), ((h2.cg (fun i hi => cM _ (by omega))).cgS (cS _ (by omega)) (fun k _ _ => cS _ (by omega))), nc, cs, (by rw [cM (48 + 2) (by omega), cM (48 + 3) (by omega)]; exact h3.cgS (cS _ (by omega)) (fun k _ _ => cS _ (by omega)) (fun i' _ => cS _ (by omega)))⟩, ⟨t', (by rw [c48 10 (by omega)]; exact h4), ((h5.cg (fun j hj => ⟨cM _ (by omega), cM _ (by omega)⟩)).cgS (cS _ (by omega)) (fun k _ _ => cS _ (by omega)))⟩, ⟨np, (by rw [c48 11 (by omega)]; exact h6), (by rw [cM (48 + 4) (by omega)]; exact h7.cgS (cS _ (by omega)) (fun k _ _ => cS _ (by omega)))⟩, (by rw [cM (48 + 5) (by omega), cM (48 + 6) (by omega)]; exact h8.cgS (fun k _ _ => cS _ (by omega))), (by rw [cM (48 + 7) (by omega)]; exact h9.cgS (fun k _ _ => cS _ (by omega))), (by rw [mset_at, upd_at])⟩
theorem q_set {M N : Mem} (h : Rel M N) (x1 x2 x3 : Int32) : Eqv (f_X9_set x1 x2 x3 M) (f_X10_set x1 x2 x3 N) := by
  unfold f_X9_set f_X9_set_b0 f_X10_set f_X10_set_b0
  rw [isBelowN x1 3 3 (by decide), isVoyage_eq]
  simp only [Option.bind_some, b2i_eq0]
  by_cases hc : 0 ≤ x1.toInt ∧ x1.toInt < 3
  rotate_left
  · rw [if_pos hc, if_pos (show ¬ (0 ≤ x1.toInt ∧ x1.toInt < 3) by omega)]
    exact ⟨_, M, N, rfl, rfl, h⟩
  rw [if_neg (nn hc), if_neg (nn (show 0 ≤ x1.toInt ∧ x1.toInt < 3 by omega))]
  rw [isBelowN x2 100 100 (by decide), isInN x2 0 99 0 99 (by decide) (by decide)]
  simp only [Option.bind_some, b2i_eq0]
  by_cases hk : 0 ≤ x2.toInt ∧ x2.toInt < 100
  rotate_left
  · rw [if_pos hk, if_pos (show ¬ (0 ≤ x2.toInt ∧ x2.toInt ≤ 99) by omega)]
    exact ⟨_, M, N, rfl, rfl, h⟩
  rw [if_neg (nn hk), if_neg (nn (show 0 ≤ x2.toInt ∧ x2.toInt ≤ 99 by omega))]
  rw [isWithinN x3 (-200) 200 (-200) 200 (by decide) (by decide), isInN x3 (-200) 200 (-200) 200 (by decide) (by decide)]
  simp only [Option.bind_some, b2i_eq0]
  by_cases hb : -200 ≤ x3.toInt ∧ x3.toInt ≤ 200
  rotate_left
  · rw [if_pos hb, if_pos (show ¬ (-200 ≤ x3.toInt ∧ x3.toInt ≤ 200) by omega)]
    exact ⟨_, M, N, rfl, rfl, h⟩
  rw [if_neg (nn hb), if_neg (nn (show -200 ≤ x3.toInt ∧ x3.toInt ≤ 200 by omega))]
  obtain ⟨v, hv3, rfl⟩ := i_of (n := 3) hc.1 hc.2
  have e0 : (10 : Int32) + (3 : Int32) * nI v = nI (10 + 3 * v) := by rw [i_lit, i_lit, nI_mul, nI_add]
  have e1 : nI (10 + 3 * v) + 1 = nI (10 + 3 * v + 1) := nI_1 _
  have e2 : nI (10 + 3 * v) + 2 = nI (10 + 3 * v + 2) := by rw [i_lit, nI_add]
  unfold f_X10_set_bc62_1
  rw [if_pos (ixb_t hv3 (by omega)), if_pos (ixb_t hv3 (by omega)), ix_nI (by omega), e0, e1, e2, if_pos (ixb_t (show 10 + 3 * v < 3300 by omega) (by omega)), if_pos (ixb_t (show 10 + 3 * v + 1 < 3300 by omega) (by omega)), if_pos (ixb_t (show 10 + 3 * v + 2 < 3300 by omega) (by omega)), ix_nI (by omega), ix_nI (by omega), ix_nI (by omega)]
  refine ⟨_, _, _, rfl, rfl, ?_⟩
  have cN : ∀ y, y ≠ 1 → mset (mset (mset N 1 (10 + 3 * v) 1) 1 (10 + 3 * v + 1) x2) 1 (10 + 3 * v + 2) x3 y = N y := fun y hy => by rw [mset_ne hy, mset_ne hy, mset_ne hy]
  have cS : ∀ k, (k < 10 + 3 * v ∨ 10 + 3 * v + 2 < k) → mset (mset (mset N 1 (10 + 3 * v) 1) 1 (10 + 3 * v + 1) x2) 1 (10 + 3 * v + 2) x3 1 k = N 1 k := fun k hk => by rw [mset_k (by omega), mset_k (by omega), mset_k (by omega)]
  refine h.now ?_ (fun y hy => by rw [mset_ne (by omega), mset_ne (by omega)]) (fun y hy => cN y (by omega)) (by rw [cN 0 (by omega)]) (by rw [cN 0 (by omega)]) (by rw [cN 0 (by omega)]) (by rw [cS 1 (by omega)]; exact Int.le_refl _)
  have h := h.1
  have cM : ∀ y, y ≠ 53 → y ≠ 54 → mset (mset M 53 v x2) 54 v x3 y = M y := fun y h1 h2 => by rw [mset_ne h2, mset_ne h1]
  obtain ⟨⟨n', h1, h2, nc, cs, h3⟩, ⟨t', h4, h5⟩, ⟨np, h6, h7⟩, h8, h9, h10⟩ := h
  have hn := h2.1
  have htt := h5.1
  refine ⟨⟨n', (by rw [cM 48 (by omega) (by omega)]; exact h1), ((h2.cg (fun i hi => cM _ (by omega) (by omega))).cgS (cS _ (by omega)) (fun k _ _ => cS _ (by omega))), nc, cs, (by rw [cM (48 + 2) (by omega) (by omega), cM (48 + 3) (by omega) (by omega)]; exact h3.cgS (cS _ (by omega)) (fun k _ _ => cS _ (by omega)) (fun i' _ => cS _ (by omega)))⟩, ⟨t', (by rw [cM 48 (by omega) (by omega)]; exact h4), ((h5.cg (fun j hj => ⟨cM _ (by omega) (by omega), cM _ (by omega) (by omega)⟩)).cgS (cS _ (by omega)) (fun k _ _ => cS _ (by omega)))⟩, ⟨np, (by rw [cM 48 (by omega) (by omega)]; exact h6), (by rw [cM (48 + 4) (by omega) (by omega)]; exact h7.cgS (cS _ (by omega)) (fun k _ _ => cS _ (by omega)))⟩, ?_, (by rw [cM (48 + 7) (by omega) (by omega)]; exact h9.cgS (fun k _ _ => cS _ (by omega))), (by rw [cM 48 (by omega) (by omega), cS 4 (by omega)]; exact h10)⟩
  intro u hu
  show (mset (mset (mset N 1 (10 + 3 * v) 1) 1 (10 + 3 * v + 1) x2) 1 (10 + 3 * v + 2) x3 1 (10 + 3 * u) = 1 ∧ mset (mset M 53 v x2) 54 v x3 53 u = _ ∧ mset (mset M 53 v x2) 54 v x3 54 u = _ ∧ _) ∨ (_ ∧ mset (mset M 53 v x2) 54 v x3 53 u = 100)
  by_cases q : u = v
  · subst q
    refine Or.inl ⟨?_, ?_, ?_, ?_⟩
    · rw [mset_k (by omega), mset_k (by omega), mset_at]
    · rw [mset_ne (by omega), mset_at, mset_k (by omega), mset_at]
    · rw [mset_at, mset_at]
    · rw [mset_k (by omega), mset_at, mset_at]
      exact ⟨⟨by omega, by omega⟩, by omega, by omega⟩
  · rw [cS (10 + 3 * u) (by omega), cS (10 + 3 * u + 1) (by omega), cS (10 + 3 * u + 2) (by omega), mset_ne (show (53 : Nat) ≠ 54 by omega), mset_k q, mset_k q, mset_ne (show (54 : Nat) ≠ 53 by omega)]
    exact h8 u hu
/-- one more mark -/
theorem RCo.add {M M' : Mem} {S S' : Row} {n : Nat} (h : RCo M S 48) (hm : M 48 9 = nI n) (hn24 : n < 24) (c9 : M' 48 9 = nI (n + 1)) (c48 : ∀ k, k ≠ 9 → M' 48 k = M 48 k) (cM : ∀ y, y ≠ 48 → y ≠ 48 + 8 + n → M' y = M y) (s0 : S' 0 = nI (n + 1)) (cS : ∀ k, k ≠ 0 → (k < 120 + 7 * n ∨ 120 + 7 * n + 7 ≤ k) → S' k = S k) (ok : MkOk S' n) (eq : MkEq (M' (48 + 8 + n)) S' n) : RCo M' S' 48 := by
  obtain ⟨⟨n', h1, h2, nc, cs, h3⟩, ⟨t', h4, h5⟩, ⟨np, h6, h7⟩, h8, h9, h10⟩ := h
  have hn := h2.1
  have htt := h5.1
  have : n' = n := (nI_eq (by omega) (by omega)).mp (h1.symm.trans hm)
  subst this
  refine ⟨⟨n' + 1, c9, ⟨by omega, s0, fun i hi => ?_⟩, nc, cs, ?_⟩, ⟨t', by rw [c48 10 (by omega)]; exact h4, ?_⟩, ⟨np, by rw [c48 11 (by omega)]; exact h6, ?_⟩, ?_, ?_, by rw [c48 12 (by omega), cS 4 (by omega) (by omega)]; exact h10⟩
  · by_cases q : i = n'
    · subst q
      exact ⟨ok, eq⟩
    · obtain ⟨a, b⟩ := h2.2.2 i (by omega)
      refine ⟨a.cgS (fun k hk => cS _ (by omega) (by omega)), ?_⟩
      show MkEq (M' (48 + 8 + i)) S' i
      rw [cM _ (by omega) (by omega)]
      exact b.cgS (fun k hk => cS _ (by omega) (by omega))
  · rw [cM (48 + 2) (by omega) (by omega), cM (48 + 3) (by omega) (by omega)]
    obtain ⟨a1, a2, a3, a4, a5, a6⟩ := h3.cgS (S' := S') (cS _ (by omega) (by omega)) (fun k _ _ => cS _ (by omega) (by omega)) (fun i' hi' => cS _ (by omega) (by omega))
    exact ⟨a1, a2, fun k hk => ⟨by have := (a3 k hk).1; omega, (a3 k hk).2⟩, a4, a5, a6⟩
  · exact (h5.cg (fun j hj => ⟨cM _ (by omega) (by omega), cM _ (by omega) (by omega)⟩)).cgS (cS _ (by omega) (by omega)) (fun k _ _ => cS _ (by omega) (by omega))
  · rw [cM (48 + 4) (by omega) (by omega)]; exact h7.cgS (cS _ (by omega) (by omega)) (fun k _ _ => cS _ (by omega) (by omega))
  · rw [cM (48 + 5) (by omega) (by omega), cM (48 + 6) (by omega) (by omega)]; exact h8.cgS (fun k _ _ => cS _ (by omega) (by omega))
  · rw [cM (48 + 7) (by omega) (by omega)]; exact h9.cgS (fun k _ _ => cS _ (by omega) (by omega))
theorem i_rem {w : Nat} (hw : w < 300) : irem (nI w) 100 = nI (w % 100) ∧ nI w / 100 = nI (w / 100) := ⟨irem_nI (d := 100) (by omega) (by omega) (by omega), pk_div (d := 100) (by omega) (by omega) (by omega)⟩
theorem uc_m1 : uc (-1) = (-1000000005 : Int32) := by decide
/-- both make the same mark -/
theorem add_eq {M N : Mem} (h : Rel M N) {n w : Nat} {k a f : Int32} (hn : M 48 9 = nI n) (hs : N 1 0 = nI n) (hn24 : n < 24) (hk : 0 ≤ k.toInt ∧ k.toInt ≤ 7) (hw : w < 300) (ha : 0 ≤ a.toInt ∧ a.toInt ≤ 999) (hf : -99 ≤ f.toInt ∧ f.toInt ≤ 99) : ∃ M' N', f_X0_addMark 48 k (nI w) a f M = some (nI n, M') ∧ f_X10_add k (nI w) a f N = some (nI n, N') ∧ Rel M' N' ∧ M' 48 9 = nI (n + 1) ∧ N' 1 0 = nI (n + 1) ∧ (∀ x, x ≠ 48 → x ≠ 48 + 8 + n → M' x = M x) ∧ (∀ x, x ≠ 1 → N' x = N x) := by
  have r0 : rfC 48 0 = 49 := (rf_co 48 (Or.inl rfl)).1
  have r : rfC 49 n = 48 + 8 + n := rf_mk (co := 48) (Or.inl rfl) hn24
  obtain ⟨w1, w2⟩ := i_rem hw
  have em : nI (n + 1) - 1 = nI n := nI_pred n
  let B := mset (mset (mset (mset (mset (mset (mset M (48 + 8 + n) 0 k) (48 + 8 + n) 1 (nI (w / 100))) (48 + 8 + n) 2 (nI (w % 100))) (48 + 8 + n) 3 a) (48 + 8 + n) 4 f) (48 + 8 + n) 5 (-1000000005)) (48 + 8 + n) 6 (-1000000005)
  have hB : B = mset (mset (mset (mset (mset (mset (mset M (48 + 8 + n) 0 k) (48 + 8 + n) 1 (nI (w / 100))) (48 + 8 + n) 2 (nI (w % 100))) (48 + 8 + n) 3 a) (48 + 8 + n) 4 f) (48 + 8 + n) 5 (-1000000005)) (48 + 8 + n) 6 (-1000000005) := rfl
  have bo : ∀ y, y ≠ 48 + 8 + n → B y = M y := fun y hy => by
    rw [hB, mset_ne hy, mset_ne hy, mset_ne hy, mset_ne hy, mset_ne hy, mset_ne hy, mset_ne hy]
  have bi : ∀ j, B (48 + 8 + n) j = if j = 6 then -1000000005 else if j = 5 then -1000000005 else if j = 4 then f else if j = 3 then a else if j = 2 then nI (w % 100) else if j = 1 then nI (w / 100) else if j = 0 then k else M (48 + 8 + n) j := fun j => by
    rw [hB]
    simp only [mset_self, upd]
  let C := mset (mset (mset (mset (mset (mset (mset N 1 (120 + 7 * n) k) 1 (120 + 7 * n + 1) (nI (w / 100))) 1 (120 + 7 * n + 2) (nI (w % 100))) 1 (120 + 7 * n + 3) a) 1 (120 + 7 * n + 4) f) 1 (120 + 7 * n + 5) (-1)) 1 (120 + 7 * n + 6) (-1)
  have hC : C = mset (mset (mset (mset (mset (mset (mset N 1 (120 + 7 * n) k) 1 (120 + 7 * n + 1) (nI (w / 100))) 1 (120 + 7 * n + 2) (nI (w % 100))) 1 (120 + 7 * n + 3) a) 1 (120 + 7 * n + 4) f) 1 (120 + 7 * n + 5) (-1)) 1 (120 + 7 * n + 6) (-1) := rfl
  have co : ∀ y, y ≠ 1 → C y = N y := fun y hy => by
    rw [hC, mset_ne hy, mset_ne hy, mset_ne hy, mset_ne hy, mset_ne hy, mset_ne hy, mset_ne hy]
  have ci : ∀ j, (j < 120 + 7 * n ∨ 120 + 7 * n + 7 ≤ j) → C 1 j = N 1 j := fun j hj => by
    rw [hC, mset_k (by omega), mset_k (by omega), mset_k (by omega), mset_k (by omega), mset_k (by omega), mset_k (by omega), mset_k (by omega)]
  have cj : C 1 (120 + 7 * n) = k ∧ C 1 (120 + 7 * n + 1) = nI (w / 100) ∧ C 1 (120 + 7 * n + 2) = nI (w % 100) ∧ C 1 (120 + 7 * n + 3) = a ∧ C 1 (120 + 7 * n + 4) = f ∧ C 1 (120 + 7 * n + 5) = -1 ∧ C 1 (120 + 7 * n + 6) = -1 := by
    rw [hC]
    refine ⟨?_, ?_, ?_, ?_, ?_, ?_, ?_⟩
    · rw [mset_k (by omega), mset_k (by omega), mset_k (by omega), mset_k (by omega), mset_k (by omega), mset_k (by omega), mset_at]
    · rw [mset_k (by omega), mset_k (by omega), mset_k (by omega), mset_k (by omega), mset_k (by omega), mset_at]
    · rw [mset_k (by omega), mset_k (by omega), mset_k (by omega), mset_k (by omega), mset_at]
    · rw [mset_k (by omega), mset_k (by omega), mset_k (by omega), mset_at]
    · rw [mset_k (by omega), mset_k (by omega), mset_at]
    · rw [mset_k (by omega), mset_at]
    · rw [mset_at]
  have b48 : B 48 9 = nI n := by rw [bo 48 (by omega)]; exact hn
  have c0 : C 1 0 = nI n := by rw [ci 0 (by omega)]; exact hs
  refine ⟨mset B 48 9 (nI (n + 1)), mset C 1 0 (nI (n + 1)), ?_, ?_, ?_, by rw [mset_at], by rw [mset_at], fun x h1 h2 => by rw [mset_ne h1]; exact bo x h2, fun x h1 => by rw [mset_ne h1]; exact co x h1⟩
  · unfold f_X0_addMark f_X0_addMark_b0 f_X2_become f_X2_become_b0 f_X2_become_bc32_1
    rw [hn, if_pos (show nI n < 24 from by rw [i_lit]; exact nI_lt (by omega) (by omega)), if_pos (ixb_t hn24 (by omega)), ix_nI (by omega), r0, r, w1, w2]
    simp only [Option.bind_some]
    rw [← hB, b48, nI_1, mset_at, em]
  · unfold f_X10_add f_X10_add_b0 f_X10_add_bc46_1 f_X10_add_bc77_2 f_X10_add_bc98_3
    rw [hs, markAt_eq]
    simp only [Option.bind_some]
    rw [w1, w2, nI_1, show nI (120 + 7 * n) + 2 = nI (120 + 7 * n + 2) from by rw [i_lit, nI_add], show nI (120 + 7 * n) + 3 = nI (120 + 7 * n + 3) from by rw [i_lit, nI_add], show nI (120 + 7 * n) + 4 = nI (120 + 7 * n + 4) from by rw [i_lit, nI_add], show nI (120 + 7 * n) + 5 = nI (120 + 7 * n + 5) from by rw [i_lit, nI_add], show nI (120 + 7 * n) + 6 = nI (120 + 7 * n + 6) from by rw [i_lit, nI_add]]
    rw [if_pos (ixb_t (show 120 + 7 * n < 3300 by omega) (by omega)), if_pos (ixb_t (show 120 + 7 * n + 1 < 3300 by omega) (by omega)), if_pos (ixb_t (show 120 + 7 * n + 2 < 3300 by omega) (by omega)), if_pos (ixb_t (show 120 + 7 * n + 3 < 3300 by omega) (by omega)), if_pos (ixb_t (show 120 + 7 * n + 4 < 3300 by omega) (by omega)), if_pos (ixb_t (show 120 + 7 * n + 5 < 3300 by omega) (by omega)), if_pos (ixb_t (show 120 + 7 * n + 6 < 3300 by omega) (by omega))]
    rw [ix_nI (by omega), ix_nI (by omega), ix_nI (by omega), ix_nI (by omega), ix_nI (by omega), ix_nI (by omega), ix_nI (by omega)]
    rw [← hC, c0, nI_1, mset_at, em]
  · refine h.now ?_ (fun y hy => by rw [mset_ne (by omega)]; exact bo y (by omega)) (fun y hy => by rw [mset_ne (by omega)]; exact co y (by omega)) (by rw [mset_ne (by omega), co 0 (by omega)]) (by rw [mset_ne (by omega), co 0 (by omega)]) (by rw [mset_ne (by omega), co 0 (by omega)]) (by rw [mset_k (by omega), ci 1 (by omega)]; exact Int.le_refl _)
    have sj : ∀ j, j ≠ 0 → mset C 1 0 (nI (n + 1)) 1 j = C 1 j := fun j hj => mset_k hj
    refine RCo.add h.1 hn hn24 (mset_at _ _ _ _) (fun j hj => by rw [mset_k hj]; rw [bo 48 (by omega)]) (fun y h1 h2 => by rw [mset_ne h1]; exact bo y h2) (mset_at _ _ _ _) (fun j hj h2 => by rw [sj j hj]; exact ci j h2) ?_ ?_
    · obtain ⟨d0, d1, d2, d3, d4, d5, d6⟩ := cj
      unfold MkOk
      rw [sj _ (by omega), sj _ (by omega), sj _ (by omega), sj _ (by omega), sj _ (by omega), sj _ (by omega), sj _ (by omega), d0, d1, d2, d3, d4, d5, d6, nI_toInt (by omega), nI_toInt (by omega)]
      have m1 : (-1 : Int32).toInt = -1 := by decide
      rw [m1]
      refine ⟨hk, by omega, by omega, ha, hf, by omega, by omega⟩
    · obtain ⟨d0, d1, d2, d3, d4, d5, d6⟩ := cj
      unfold MkEq
      rw [mset_ne (by omega), sj _ (by omega), sj _ (by omega), sj _ (by omega), sj _ (by omega), sj _ (by omega), sj _ (by omega), sj _ (by omega), d0, d1, d2, d3, d4, d5, d6, uc_m1]
      simp only [bi, Nat.reduceEqDiff, if_true, if_false]
      exact ⟨trivial, trivial, trivial, trivial, trivial, trivial, trivial⟩
theorem q_mark {M N : Mem} (h : Rel M N) (x1 x2 x3 x4 : Int32) : Eqv (f_X9_mark x1 x2 x3 x4 M) (f_X10_mark x1 x2 x3 x4 N) := by
  obtain ⟨n, t, hv⟩ := RV.of (Or.inl rfl) h.1
  have hs := hv.sv
  have hn := hs.2.1
  unfold f_X9_mark f_X9_mark_b0 f_X10_mark f_X10_mark_b0
  rw [isBelowN x1 8 8 (by decide), isInN x1 0 7 0 7 (by decide) (by decide)]
  simp only [Option.bind_some, b2i_eq0]
  by_cases hk : 0 ≤ x1.toInt ∧ x1.toInt < 8
  rotate_left
  · rw [if_pos hk, if_pos (show ¬ (0 ≤ x1.toInt ∧ x1.toInt ≤ 7) by omega)]
    exact ⟨_, M, N, rfl, rfl, h⟩
  rw [if_neg (nn hk), if_neg (nn (show 0 ≤ x1.toInt ∧ x1.toInt ≤ 7 by omega))]
  rw [isWhen_eq, isInN x2 0 299 0 299 (by decide) (by decide)]
  simp only [Option.bind_some, b2i_eq0]
  by_cases hw : 0 ≤ x2.toInt ∧ x2.toInt < 300
  rotate_left
  · rw [if_pos hw, if_pos (show ¬ (0 ≤ x2.toInt ∧ x2.toInt ≤ 299) by omega)]
    exact ⟨_, M, N, rfl, rfl, h⟩
  rw [if_neg (nn hw), if_neg (nn (show 0 ≤ x2.toInt ∧ x2.toInt ≤ 299 by omega))]
  rw [isBelowN x3 1000 1000 (by decide), isInN x3 0 999 0 999 (by decide) (by decide)]
  simp only [Option.bind_some, b2i_eq0]
  by_cases ha : 0 ≤ x3.toInt ∧ x3.toInt < 1000
  rotate_left
  · rw [if_pos ha, if_pos (show ¬ (0 ≤ x3.toInt ∧ x3.toInt ≤ 999) by omega)]
    exact ⟨_, M, N, rfl, rfl, h⟩
  rw [if_neg (nn ha), if_neg (nn (show 0 ≤ x3.toInt ∧ x3.toInt ≤ 999 by omega))]
  rw [isWithinN x4 (-99) 99 (-99) 99 (by decide) (by decide), isInN x4 (-99) 99 (-99) 99 (by decide) (by decide)]
  simp only [Option.bind_some, b2i_eq0]
  by_cases hf : -99 ≤ x4.toInt ∧ x4.toInt ≤ 99
  rotate_left
  · rw [if_pos hf, if_pos (show ¬ (-99 ≤ x4.toInt ∧ x4.toInt ≤ 99) by omega)]
    exact ⟨_, M, N, rfl, rfl, h⟩
  rw [if_neg (nn hf), if_neg (nn (show -99 ≤ x4.toInt ∧ x4.toInt ≤ 99 by omega))]
  obtain ⟨w, hw3, rfl⟩ := i_of (n := 300) hw.1 hw.2
  rw [hv.2.1, hs.1]
  by_cases q : n = 24
  · subst q
    rw [if_neg (show ¬ nI 24 < 24 by decide), if_pos (show nI 24 = 24 by decide)]
    exact ⟨_, M, N, rfl, rfl, h⟩
  · obtain ⟨M', N', e1, e2, hr, -⟩ := add_eq h hv.2.1 hs.1 (by omega) (k := x1) (a := x3) (f := x4) (by omega) hw3 (by omega) hf
    rw [if_pos (show nI n < 24 from by rw [i_lit]; exact nI_lt (by omega) (by omega)), if_neg (show ¬ nI n = 24 from by rw [i_lit]; exact nI_ne (by omega) (by omega) q), e1, e2]
    exact ⟨_, M', N', rfl, rfl, hr⟩
