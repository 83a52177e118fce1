theorem mcpy_at (M : Mem) (a sp t dp n j : Nat) : mcpy M a sp t dp n t j = if dp ≤ j ∧ j < dp + n then M a (sp + (j - dp)) else M t j := by
  unfold mcpy va_cpy
  rw [if_pos rfl]
theorem mcpy_ne {M : Mem} {a sp t dp n x : Nat} (h : x ≠ t) : mcpy M a sp t dp n x = M x := by
  unfold mcpy
  rw [if_neg h]
theorem RSlo.one {M M' : Mem} {a b c d f a' b' c' d' f' : Row} {k : Nat} (h : RSlo M a b c d f) (hM : ∀ x, (x < 120 + 3 * k ∨ 122 + 3 * k < x) → M' x = M x) (ha : ∀ j, j ≠ k → a' j = a j ∧ b' j = b j ∧ c' j = c j ∧ d' j = d j) (hf : ∀ j, (j < 24 * k ∨ 24 * k + 24 ≤ j) → f' j = f j) (hn : M' (120 + 3 * k) 0 = a' k ∧ (0 ≤ (a' k).toInt ∧ (a' k).toInt ≤ 3) ∧ (a' k = 1 → M' (120 + 3 * k) 1 = b' k ∧ (0 ≤ (b' k).toInt ∧ (b' k).toInt ≤ 7)) ∧ (a' k = 3 → M' (120 + 3 * k) 2 = b' k) ∧ (a' k = 2 → M' (121 + 3 * k) 0 = c' k ∧ M' (121 + 3 * k) 1 = d' k ∧ (∃ n, n ≤ 24 ∧ d' k = nI n) ∧ ∀ i, i < 24 → M' (122 + 3 * k) i = f' (24 * k + i))) : RSlo M' a' b' c' d' f' := by
  intro j hj
  by_cases q : j = k
  · subst q
    exact hn
  · obtain ⟨h1, h2, h3, h4, h5⟩ := h j hj
    obtain ⟨e1, e2, e3, e4⟩ := ha j q
    rw [hM (120 + 3 * j) (by omega), hM (121 + 3 * j) (by omega), hM (122 + 3 * j) (by omega), e1, e2, e3, e4]
    exact ⟨h1, h2, h3, h4, fun z => by
      obtain ⟨g1, g2, g3, g4⟩ := h5 z
      exact ⟨g1, g2, g3, fun i hi => by rw [hf _ (by omega)]; exact g4 i hi⟩⟩
theorem layM_eq {N : Mem} {k s : Nat} (hk : k < 5) (hs : s < 4) (x5 : Int32) : ∃ N', f_X10_lay_b142 FU (nI k) (nI s) x5 0 N = some (x5, N') ∧ (∀ i, i < 24 → N' 11 (24 * k + i) = N 6 (24 * s + i)) ∧ (∀ j, (j < 24 * k ∨ 24 * k + 24 ≤ j) → N' 11 j = N 11 j) ∧ ∀ x, x ≠ 11 → N' x = N x := by
  have key : ∀ (r fuel i : Nat) (N1 : Mem), i + r = 24 → r < fuel → (∀ j, j < i → N1 11 (24 * k + j) = N 6 (24 * s + j)) → (∀ j, (j < 24 * k ∨ 24 * k + 24 ≤ j) → N1 11 j = N 11 j) → (∀ x, x ≠ 11 → N1 x = N x) → ∃ N', f_X10_lay_b142 fuel (nI k) (nI s) x5 (nI i) N1 = some (x5, N') ∧ (∀ i, i < 24 → N' 11 (24 * k + i) = N 6 (24 * s + i)) ∧ (∀ j, (j < 24 * k ∨ 24 * k + 24 ≤ j) → N' 11 j = N 11 j) ∧ ∀ x, x ≠ 11 → N' x = N x := by
    intro r
    induction r with
    | zero =>
      intro fuel i N1 hi hf hz ho hx
      obtain ⟨f, rfl⟩ : ∃ f, fuel = f + 1 := ⟨fuel - 1, by omega⟩
      have : i = 24 := by omega
      subst this
      rw [f_X10_lay_b142, if_pos (by decide)]
      exact ⟨N1, rfl, hz, ho, hx⟩
    | succ r ih =>
      intro fuel i N1 hi hf hz ho hx
      obtain ⟨f, rfl⟩ : ∃ f, fuel = f + 1 := ⟨fuel - 1, by omega⟩
      rw [f_X10_lay_b142, if_neg (show ¬ (24 : Int32) ≤ nI i by rw [i_lit]; exact nI_ge (by omega) (by omega)), show (24 : Int32) * nI k + nI i = nI (24 * k + i) from by rw [i_lit, nI_mul, nI_add], show (24 : Int32) * nI s + nI i = nI (24 * s + i) from by rw [i_lit, nI_mul, nI_add], if_pos (ixb_t (show 24 * s + i < 96 by omega) (by omega)), if_pos (ixb_t (show 24 * k + i < 120 by omega) (by omega)), ix_nI (by omega), ix_nI (by omega), nI_1]
      refine ih f (i + 1) _ (by omega) (by omega) (fun j hj => ?_) (fun j hj => ?_) (fun x h => by rw [mset_ne h]; exact hx x h)
      · rw [mset_self]
        unfold upd
        by_cases q : j = i
        · rw [if_pos (by omega), hx 6 (by omega), q]
        · rw [if_neg (by omega)]; exact hz j (by omega)
      · rw [mset_k (by omega)]; exact ho j hj
  exact key 24 FU 0 N (by omega) (by unfold FU; omega) (fun j hj => absurd hj (Nat.not_lt_zero j)) (fun _ _ => rfl) (fun _ _ => rfl)
theorem takeFromS_eq {M : Mem} {a s : Nat} (ha : a < 5) (hs : s < 4) : ∃ M', f_X6_takeFrom (121 + 3 * a) (112 + 2 * s) M = some (0, M') ∧ M' (121 + 3 * a) 0 = M (112 + 2 * s) 0 ∧ M' (121 + 3 * a) 1 = M (112 + 2 * s) 1 ∧ (∀ i, i < 24 → M' (122 + 3 * a) i = M (113 + 2 * s) i) ∧ ∀ x, x ≠ 121 + 3 * a → x ≠ 122 + 3 * a → M' x = M x := by
  obtain ⟨-, -, r3⟩ := rf_sl a ha
  obtain ⟨-, r2⟩ := rf_sh s hs
  unfold f_X6_takeFrom f_X6_takeFrom_b0
  rw [if_pos (by decide), r3, r2, show ix (0 : Int32) = 0 from by decide, show ix (24 : Int32) = 24 from by decide]
  refine ⟨_, rfl, ?_, ?_, fun i hi => ?_, fun x h1 h2 => ?_⟩
  · rw [mcpy_ne (by omega), mset_k (by omega), mset_at]
  · rw [mcpy_ne (by omega), mset_at, mset_ne (by omega)]
  · rw [mcpy_at, if_pos (by omega), mset_ne (by omega), mset_ne (by omega)]
    congr 1
    omega
  · rw [mcpy_ne h2, mset_ne h1, mset_ne h1]
theorem q_lay {M N : Mem} (h : Rel M N) (x1 x2 x3 : Int32) : Eqv (f_X9_lay x1 x2 x3 M) (f_X10_lay x1 x2 x3 N) := by
  obtain ⟨n, t, hv⟩ := RV.of (Or.inl rfl) h.1
  have hs := hv.sv
  have hn := hs.2.1
  have bad : ¬ (0 ≤ x1.toInt ∧ x1.toInt < 5) ∨ ¬ (0 ≤ x2.toInt ∧ x2.toInt < 4) → f_X9_lay x1 x2 x3 M = some ((-1000000001 : Int32), M) := by
    intro hb
    unfold f_X9_lay f_X9_lay_b0
    rw [isBelowN x1 5 5 (by decide)]
    simp only [Option.bind_some, b2i_eq0]
    by_cases hc : 0 ≤ x1.toInt ∧ x1.toInt < 5
    · rw [if_neg (nn hc), isBelowN x2 4 4 (by decide)]
      simp only [Option.bind_some, b2i_eq0]
      rw [if_pos (show ¬ (0 ≤ x2.toInt ∧ x2.toInt < 4) by rcases hb with z | z; exact absurd hc z; exact z)]
    · rw [if_pos hc]
  have b39 : ∀ s0, (¬ (0 ≤ x1.toInt ∧ x1.toInt < 5) ∨ s0 = 0) → f_X10_lay_b39 x1 x2 x3 s0 N = some ((-1000000001 : Int32), N) := by
    intro s0 hb
    unfold f_X10_lay_b39
    rw [isSlot_eq]
    simp only [Option.bind_some, b2i_eq0]
    by_cases hc : 0 ≤ x1.toInt ∧ x1.toInt < 5
    · rw [if_neg (nn hc), if_pos (show s0 = 0 by rcases hb with z | z; exact absurd hc z; exact z)]
    · rw [if_pos hc]
  have mbad : ¬ (0 ≤ x1.toInt ∧ x1.toInt < 5) ∨ ¬ (0 ≤ x2.toInt ∧ x2.toInt < 4) → f_X10_lay x1 x2 x3 N = some ((-1000000001 : Int32), N) := by
    intro hb
    have a1 : f_X10_lay_b38 x1 x2 x3 N = some ((-1000000001 : Int32), N) := by unfold f_X10_lay_b38; exact b39 0 (Or.inr rfl)
    have a2 : ¬ (0 ≤ x1.toInt ∧ x1.toInt < 5) → f_X10_lay_b34 x1 x2 x3 N = some ((-1000000001 : Int32), N) := fun z => by unfold f_X10_lay_b34; exact b39 1 (Or.inl z)
    have a3 : ¬ (0 ≤ x1.toInt ∧ x1.toInt < 5) → f_X10_lay_b22 x1 x2 x3 N = some ((-1000000001 : Int32), N) := fun z => by
      unfold f_X10_lay_b22
      rw [isSheet_eq]
      simp only [Option.bind_some]
      rw [a1, a2 z]
      split
      · split <;> rfl
      · rfl
    unfold f_X10_lay f_X10_lay_b0
    by_cases hc : 0 ≤ x1.toInt ∧ x1.toInt < 5
    · have hx : ¬ (0 ≤ x2.toInt ∧ x2.toInt < 4) := by rcases hb with z | z; exact absurd hc z; exact z
      have n0 : ¬ x2 = 0 := fun z => hx (by rw [z]; decide)
      have n1 : ¬ x2 = 1 := fun z => hx (by rw [z]; decide)
      have n2 : ¬ x2 = 2 := fun z => hx (by rw [z]; decide)
      have n3 : ¬ x2 = 3 := fun z => hx (by rw [z]; decide)
      rw [if_neg n0, if_neg n3, if_neg n1, f_X10_lay_b22, if_neg n2]
      exact a1
    · rw [isMark_eq hs.1 hn]
      simp only [Option.bind_some]
      rw [a2 hc, a3 hc]
      split
      · rfl
      · split
        · rfl
        · split
          · split <;> rfl
          · rfl
  by_cases hc : 0 ≤ x1.toInt ∧ x1.toInt < 5
  rotate_left
  · rw [bad (Or.inl hc), mbad (Or.inl hc)]
    exact ⟨_, M, N, rfl, rfl, h⟩
  by_cases hk : 0 ≤ x2.toInt ∧ x2.toInt < 4
  rotate_left
  · rw [bad (Or.inr hk), mbad (Or.inr hk)]
    exact ⟨_, M, N, rfl, rfl, h⟩
  obtain ⟨k, hk5, rfl⟩ := i_of (n := 5) hc.1 hc.2
  obtain ⟨s0, sb, -⟩ := h.2.2.2.2.1 k hk5
  obtain ⟨r1, r2, r3⟩ := rf_sl k hk5
  unfold f_X9_lay f_X9_lay_b0
  rw [isBelowN (nI k) 5 5 (by decide)]
  simp only [Option.bind_some, b2i_eq0]
  rw [if_neg (nn hc), isBelowN x2 4 4 (by decide)]
  simp only [Option.bind_some, b2i_eq0]
  rw [if_neg (nn hk)]
  have m39 : f_X10_lay_b39 (nI k) x2 x3 1 N = (if x2 = (2 : Int32) then (if ixb x3 4 = true then (if 0 ≤ N 4 (ix x3) then f_X10_lay_b74 (nI k) x2 x3 N else some ((-1000000011 : Int32), N)) else none) else f_X10_lay_b74 (nI k) x2 x3 N) := by
    unfold f_X10_lay_b39
    rw [isSlot_eq]
    simp only [Option.bind_some, b2i_eq0]
    rw [if_neg (nn hc), if_neg (by decide)]
  have fr : ∀ (v w : Int32), (0 ≤ v.toInt ∧ v.toInt ≤ 3) → ¬ v = 2 → (v = 1 → 0 ≤ w.toInt ∧ w.toInt ≤ 7) → ∀ j : Nat, (v = 1 → j = 1) → (v = 3 → j = 2) → (1 ≤ j ∧ j ≤ 2) → Rel (mset (mset M (120 + 3 * k) 0 v) (120 + 3 * k) j w) (mset (mset N 7 k v) 8 k w) := by
    intro v w hv3 hv2 hw j hj1 hj3 hjb
    have cN : ∀ y, y ≠ 7 → y ≠ 8 → mset (mset N 7 k v) 8 k w y = N y := fun y p1 p2 => by rw [mset_ne p2, mset_ne p1]
    refine h.slo ?_ (fun y p1 p2 => by rw [mset_ne (by omega), mset_ne (by omega)]) (fun y p1 p2 => cN y (by omega) (by omega)) (by rw [cN 0 (by omega) (by omega)]) (by rw [cN 0 (by omega) (by omega)]) (by rw [cN 0 (by omega) (by omega)])
    have n7 : mset (mset N 7 k v) 8 k w 7 = upd (N 7) k v := by rw [mset_ne (by omega), mset_self]
    have n8 : mset (mset N 7 k v) 8 k w 8 = upd (N 8) k w := by rw [mset_self, mset_ne (by omega)]
    rw [n7, n8, cN 9 (by omega) (by omega), cN 10 (by omega) (by omega), cN 11 (by omega) (by omega)]
    refine h.2.2.2.2.1.one (k := k) (fun x hx => by rw [mset_ne (by omega), mset_ne (by omega)]) (fun j hj => ⟨upd_ne hj, upd_ne hj, rfl, rfl⟩) (fun _ _ => rfl) ?_
    rw [upd_at, upd_at]
    refine ⟨by rw [mset_k (by omega), mset_at], hv3, fun z => ⟨by rw [hj1 z, mset_at], hw z⟩, fun z => by rw [hj3 z, mset_at], fun z => absurd z hv2⟩
  obtain ⟨v, hv4, rfl⟩ := i_of (n := 4) hk.1 hk.2
  rcases (show v = 0 ∨ v = 1 ∨ v = 2 ∨ v = 3 by omega) with rfl | rfl | rfl | rfl
  · rw [if_neg (by decide), f_X9_lay_b38, if_neg (by decide), f_X9_lay_b54, if_neg (by decide), f_X9_lay_b75, if_pos (ixb_t hk5 (by omega)), if_neg (by decide), if_neg (by decide), ix_nI (by omega), r1, s0]
    unfold f_X10_lay f_X10_lay_b0
    rw [if_pos (by decide), f_X10_lay_b34, m39, if_neg (by decide), f_X10_lay_b74, if_pos (ixb_t hk5 (by omega)), if_pos (ixb_t hk5 (by omega)), if_neg (by decide), f_X10_lay_b109, if_pos (ixb_t hk5 (by omega)), if_neg (by decide), ix_nI (by omega)]
    exact ⟨_, _, _, rfl, rfl, fr (nI 0) x3 (by decide) (by decide) (fun z => absurd z (by decide)) 2 (fun z => absurd z (by decide)) (fun z => absurd z (by decide)) (by omega)⟩
  · rw [if_pos (by decide), hv.2.1, isBelowN x3 (nI n) n (nI_toInt (by omega))]
    simp only [Option.bind_some, b2i_eq0]
    unfold f_X10_lay f_X10_lay_b0
    rw [if_neg (show ¬ nI 1 = 0 by decide), if_neg (show ¬ nI 1 = 3 by decide), if_pos (show nI 1 = 1 by decide), isMark_eq hs.1 hn]
    simp only [Option.bind_some, b2i_eq0]
    by_cases hm : 0 ≤ x3.toInt ∧ x3.toInt < (n : Int)
    · obtain ⟨i, hi, rfl⟩ := i_of hm.1 hm.2
      obtain ⟨ok, m0, -⟩ := hv.2.2.1.2.2 i hi
      have m0 : M (48 + 8 + i) 0 = _ := m0
      have ri : rfC 49 i = 48 + 8 + i := rf_mk (co := 48) (Or.inl rfl) (by omega)
      rw [if_neg (nn hm), if_neg (nn hm), f_X9_lay_b38, if_neg (by decide), f_X9_lay_b54, if_neg (by decide), f_X9_lay_b75, if_pos (ixb_t hk5 (by omega)), if_pos (by decide), if_pos (ixb_t (show i < 24 by omega) (by omega)), ix_nI (by omega), ix_nI (by omega), r1, ri, s0, mset_ne (show 48 + 8 + i ≠ 120 + 3 * k by omega), m0, f_X10_lay_b34, m39, if_neg (by decide), f_X10_lay_b74, if_pos (ixb_t hk5 (by omega)), if_pos (ixb_t hk5 (by omega)), if_pos (by decide), fd0 (by omega)]
      simp only [Option.bind_some]
      rw [ix_nI (by omega), mset_ne (show (1 : Nat) ≠ 7 by omega), f_X10_lay_b109, if_pos (ixb_t hk5 (by omega)), if_neg (by decide), ix_nI (by omega)]
      exact ⟨_, _, _, rfl, rfl, fr (nI 1) _ (by decide) (by decide) (fun _ => ok.1) 1 (fun _ => rfl) (fun z => absurd z (by decide)) (by omega)⟩
    · rw [if_pos hm, if_pos hm, f_X10_lay_b22, if_neg (by decide), f_X10_lay_b38, b39 0 (Or.inr rfl)]
      exact ⟨_, M, N, rfl, rfl, h⟩
  · rw [if_neg (by decide), f_X9_lay_b38, if_pos (by decide), isBelowN x3 4 4 (by decide)]
    simp only [Option.bind_some, b2i_eq0]
    unfold f_X10_lay f_X10_lay_b0
    rw [if_neg (show ¬ nI 2 = 0 by decide), if_neg (show ¬ nI 2 = 3 by decide), if_neg (show ¬ nI 2 = 1 by decide), f_X10_lay_b22, if_pos (show nI 2 = 2 by decide), isSheet_eq]
    simp only [Option.bind_some, b2i_eq0]
    by_cases hm : 0 ≤ x3.toInt ∧ x3.toInt < 4
    · obtain ⟨s, hs4, rfl⟩ := i_of (n := 4) hm.1 hm.2
      obtain ⟨t0, t1, tb, tn, tr⟩ := h.2.2.2.1 s hs4
      obtain ⟨u1, u2⟩ := rf_sh s hs4
      rw [if_neg (nn hm), if_neg (nn hm), f_X9_lay_b54, if_pos (by decide), if_pos (ixb_t hs4 (by omega)), ix_nI (by omega), u1, isMissing_eq t0 tb, f_X10_lay_b34, m39, if_pos (by decide), if_pos (ixb_t hs4 (by omega)), ix_nI (by omega)]
      simp only [Option.bind_some, b2i_eq0]
      by_cases q : 0 ≤ N 4 s
      · rw [if_pos (nn q), if_pos q, f_X9_lay_b75, if_pos (ixb_t hk5 (by omega)), if_neg (by decide), if_pos (by decide), if_pos (ixb_t hs4 (by omega)), ix_nI (by omega), ix_nI (by omega), r1, r2, u1, s0, f_X10_lay_b74, if_pos (ixb_t hk5 (by omega)), if_pos (ixb_t hk5 (by omega)), if_neg (by decide), f_X10_lay_b109, if_pos (ixb_t hk5 (by omega)), if_pos (by decide), if_pos (ixb_t hs4 (by omega)), if_pos (ixb_t hk5 (by omega)), if_pos (ixb_t hs4 (by omega)), if_pos (ixb_t hk5 (by omega)), ix_nI (by omega), ix_nI (by omega), f_X10_lay_bc139_1]
        obtain ⟨M', e1, a1, a2, a3, a4⟩ := takeFromS_eq (M := mset M (120 + 3 * k) 0 (nI 2)) hk5 hs4
        let B := mset (mset (mset (mset N 7 k (nI 2)) 8 k (nI s)) 9 k (N 4 s)) 10 k (N 5 s)
        obtain ⟨N', e2, b1, b2, b3⟩ := layM_eq (N := B) hk5 hs4 (N 7 k)
        have hB : mset (mset (mset (mset N 7 k (nI 2)) 8 k (nI s)) 9 k (mset (mset N 7 k (nI 2)) 8 k (nI s) 4 s)) 10 k (mset (mset (mset N 7 k (nI 2)) 8 k (nI s)) 9 k (mset (mset N 7 k (nI 2)) 8 k (nI s) 4 s) 5 s) = B := by
          rw [mset_ne (show (4 : Nat) ≠ 8 by omega), mset_ne (show (4 : Nat) ≠ 7 by omega), mset_ne (show (5 : Nat) ≠ 9 by omega), mset_ne (show (5 : Nat) ≠ 8 by omega), mset_ne (show (5 : Nat) ≠ 7 by omega)]
        rw [e1, hB, e2]
        simp only [Option.bind_some]
        have cB : ∀ y, y ≠ 7 → y ≠ 8 → y ≠ 9 → y ≠ 10 → B y = N y := fun y p1 p2 p3 p4 => by show mset (mset (mset (mset N 7 k (nI 2)) 8 k (nI s)) 9 k (N 4 s)) 10 k (N 5 s) y = _; rw [mset_ne p4, mset_ne p3, mset_ne p2, mset_ne p1]
        have cN : ∀ y, (y < 7 ∨ 11 < y) → N' y = N y := fun y hy => by rw [b3 y (by omega)]; exact cB y (by omega) (by omega) (by omega) (by omega)
        refine ⟨_, M', N', rfl, rfl, h.slo ?_ (fun y p1 p2 => by rw [a4 y (by omega) (by omega), mset_ne (by omega)]) (fun y p1 p2 => cN y p2) (by rw [cN 0 (by omega)]) (by rw [cN 0 (by omega)]) (by rw [cN 0 (by omega)])⟩
        have n7 : N' 7 = upd (N 7) k (nI 2) := by rw [b3 7 (by omega)]; show mset (mset (mset (mset N 7 k (nI 2)) 8 k (nI s)) 9 k (N 4 s)) 10 k (N 5 s) 7 = _; rw [mset_ne (by omega), mset_ne (by omega), mset_ne (by omega), mset_self]
        have n8 : N' 8 = upd (N 8) k (nI s) := by rw [b3 8 (by omega)]; show mset (mset (mset (mset N 7 k (nI 2)) 8 k (nI s)) 9 k (N 4 s)) 10 k (N 5 s) 8 = _; rw [mset_ne (by omega), mset_ne (by omega), mset_self, mset_ne (by omega)]
        have n9 : N' 9 = upd (N 9) k (N 4 s) := by rw [b3 9 (by omega)]; show mset (mset (mset (mset N 7 k (nI 2)) 8 k (nI s)) 9 k (N 4 s)) 10 k (N 5 s) 9 = _; rw [mset_ne (by omega), mset_self, mset_ne (by omega), mset_ne (by omega)]
        have n10 : N' 10 = upd (N 10) k (N 5 s) := by rw [b3 10 (by omega)]; show mset (mset (mset (mset N 7 k (nI 2)) 8 k (nI s)) 9 k (N 4 s)) 10 k (N 5 s) 10 = _; rw [mset_self, mset_ne (by omega), mset_ne (by omega), mset_ne (by omega)]
        rw [n7, n8, n9, n10]
        refine h.2.2.2.2.1.one (k := k) (fun x hx => by rw [a4 x (by omega) (by omega), mset_ne (by omega)]) (fun j hj => ⟨upd_ne hj, upd_ne hj, upd_ne hj, upd_ne hj⟩) (fun j hj => by rw [b2 j hj, cB 11 (by omega) (by omega) (by omega) (by omega)]) ?_
        rw [upd_at, upd_at, upd_at, upd_at]
        refine ⟨by rw [a4 _ (by omega) (by omega), mset_at], by decide, fun z => absurd z (by decide), fun z => absurd z (by decide), fun _ => ⟨by rw [a1, mset_ne (by omega)]; exact t0, by rw [a2, mset_ne (by omega)]; exact t1, tn, fun i hi => ?_⟩⟩
        rw [a3 i hi, mset_ne (by omega), b1 i hi, cB 6 (by omega) (by omega) (by omega) (by omega)]
        exact tr i hi
      · rw [if_neg (nn q), if_neg q]
        exact ⟨_, M, N, rfl, rfl, h⟩
    · rw [if_pos hm, if_pos hm, f_X10_lay_b38, b39 0 (Or.inr rfl)]
      exact ⟨_, M, N, rfl, rfl, h⟩
  · rw [if_neg (by decide), f_X9_lay_b38, if_neg (by decide), f_X9_lay_b54, if_neg (by decide), f_X9_lay_b75, if_pos (ixb_t hk5 (by omega)), if_neg (by decide), if_neg (by decide), ix_nI (by omega), r1, s0]
    unfold f_X10_lay f_X10_lay_b0
    rw [if_neg (by decide), if_pos (by decide), f_X10_lay_b34, m39, if_neg (by decide), f_X10_lay_b74, if_pos (ixb_t hk5 (by omega)), if_pos (ixb_t hk5 (by omega)), if_neg (by decide), f_X10_lay_b109, if_pos (ixb_t hk5 (by omega)), if_neg (by decide), ix_nI (by omega)]
    exact ⟨_, _, _, rfl, rfl, fr (nI 3) x3 (by decide) (by decide) (fun z => absurd z (by decide)) 2 (fun z => absurd z (by decide)) (fun _ => rfl) (by omega)⟩
