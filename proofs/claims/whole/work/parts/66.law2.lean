/-! LAW: a new text -/
theorem takeT_eq {M : Mem} {t l : Nat} (ht : t < 14) (hl : l ≤ 96) (m9 : M 1 9 = nI l) : ∃ M', f_X8_takeFrom (19 + 2 * t) M = some (0, M') ∧ M' (19 + 2 * t) 0 = M 1 6 ∧ M' (19 + 2 * t) 1 = M 1 7 ∧ M' (19 + 2 * t) 2 = M 1 8 ∧ M' (19 + 2 * t) 3 = nI l ∧ (∀ p, p < l → M' (20 + 2 * t) p = M 3 p) ∧ ∀ x, x ≠ 19 + 2 * t → x ≠ 20 + 2 * t → M' x = M x := by
  obtain ⟨-, r4⟩ := rf_tx t ht
  have n1 : (1 : Nat) ≠ 19 + 2 * t := by omega
  unfold f_X8_takeFrom f_X8_takeFrom_b0 f_X8_takeFrom_bc24_1
  simp only [mset_ne n1, mset_at, r4]
  have hcp : cpyb (0 : Int32) (0 : Int32) (nI l) 96 96 = true := by
    unfold cpyb
    rw [nI_toInt (by omega), ix_nI (by omega)]
    exact decide_eq_true ⟨by decide, by decide, by omega, by rw [ixc.1]; omega, by rw [ixc.1]; omega⟩
  rw [m9, if_pos hcp, ixc.1, ix_nI (by omega)]
  refine ⟨_, rfl, ?_, ?_, ?_, ?_, fun p hp => ?_, fun x x1 x2 => ?_⟩
  · rw [mcpy_ne (by omega), mset_k (by omega), mset_k (by omega), mset_k (by omega), mset_at]
  · rw [mcpy_ne (by omega), mset_k (by omega), mset_k (by omega), mset_at]
  · rw [mcpy_ne (by omega), mset_k (by omega), mset_at]
  · rw [mcpy_ne (by omega), mset_at]
  · rw [mcpy_r, if_pos ⟨rfl, hp⟩, mset_ne (by omega), mset_ne (by omega), mset_ne (by omega), mset_ne (by omega)]
  · rw [mcpy_ne x2, mset_ne x1, mset_ne x1, mset_ne x1, mset_ne x1]
theorem Rel.text {M N M' N' : Mem} (h : Rel M N) {t kv l : Nat} (ht : N 1 1 = nI t) (ht14 : t < 14) (hkv : kv < 9) (hl : l ≤ 96) (fM : ∀ x, x ≠ 1 → x ≠ 3 → x ≠ 48 → x ≠ 19 + 2 * t → x ≠ 20 + 2 * t → M' x = M x) (m11 : M' 1 1 = 0) (m10 : M' 48 10 = nI (t + 1)) (m48 : ∀ k, k ≠ 10 → M' 48 k = M 48 k) (x0 : M' (19 + 2 * t) 0 = nI (kv / 3)) (x1 : M' (19 + 2 * t) 1 = nI (kv % 3)) (x2 : M' (19 + 2 * t) 2 = N' 1 (290 + 200 * t + 1)) (x3 : M' (19 + 2 * t) 3 = nI l) (fN : ∀ x, x ≠ 0 → x ≠ 1 → N' x = N x) (n13 : N' 0 13 = 0) (n3 : N' 0 3 = N 0 3) (n45 : N' 0 45 = N 0 45) (s1 : N' 1 1 = nI (t + 1)) (s0 : N' 1 (290 + 200 * t) = nI kv) (s2 : N' 1 (290 + 200 * t + 2) = nI l) (fS : ∀ j, j < 290 + 200 * t → j ≠ 1 → N' 1 j = N 1 j) (cd : ∀ p, p < l → M' (20 + 2 * t) p = codeOf (N' 1 (290 + 200 * t + 4 + 2 * p)) (N' 1 (290 + 200 * t + 4 + 2 * p + 1))) (hD : ∃ D : Nat → Nat, D 0 = 0 ∧ D l = 1 ∧ ∀ p, p < l → stepOk (N' 1 (290 + 200 * t + 4 + 2 * p)) (N' 1 (290 + 200 * t + 4 + 2 * p + 1)) (D p) (D (p + 1))) : Rel M' N' := by
  obtain ⟨h1, ⟨h2, h3⟩, h4, h5, h6, h7⟩ := h
  have c0 := fM 0 (by omega) (by omega) (by omega) (by omega) (by omega)
  refine ⟨?_, ⟨by rw [c0, n3]; exact h2, ?_⟩, ?_, ?_, ?_, ?_⟩
  · obtain ⟨⟨n, p1, p2, nc, cs, p3⟩, ⟨t', p4, p5⟩, ⟨np, p6, p7⟩, p8, p9, p10⟩ := h1
    have hn := p2.1
    have : t' = t := (nI_eq (by have := p5.1; omega) (by omega)).mp (p5.2.1.symm.trans ht)
    subst this
    refine ⟨⟨n, by rw [m48 9 (by omega)]; exact p1, (p2.cg (fun i hi => fM _ (by omega) (by omega) (by omega) (by omega) (by omega))).cgS (fS _ (by omega) (by omega)) (fun k _ _ => fS _ (by omega) (by omega)), nc, cs, ?_⟩, ⟨t' + 1, m10, by omega, s1, fun j hj => ?_⟩, ⟨np, by rw [m48 11 (by omega)]; exact p6, ?_⟩, ?_, ?_, by rw [m48 12 (by omega), fS 4 (by omega) (by omega)]; exact p10⟩
    · rw [fM (48 + 2) (by omega) (by omega) (by omega) (by omega) (by omega), fM (48 + 3) (by omega) (by omega) (by omega) (by omega) (by omega)]
      exact p3.cgS (fS _ (by omega) (by omega)) (fun k _ _ => fS _ (by omega) (by omega)) (fun i hi => fS _ (by omega) (by omega))
    · by_cases q : j = t'
      · subst q
        refine ⟨⟨⟨kv, hkv, s0⟩, l, hl, s2, hD⟩, ?_⟩
        show TxEq (M' (19 + 2 * j)) (M' (20 + 2 * j)) (N' 1) j
        refine ⟨?_, ?_, x2, by rw [x3, s2], fun p hp hp96 => ?_⟩
        · rw [x0, s0]; exact (pk_div (d := 3) (by omega) (by omega) (by omega)).symm
        · rw [x1, s0]; exact (irem_nI (d := 3) (by omega) (by omega) (by omega)).symm
        · rw [s2] at hp
          refine cd p ?_
          rw [i_lt, nI_toInt (by omega), nI_toInt (by omega)] at hp
          omega
      · obtain ⟨o1, o2⟩ := p5.2.2 j (by omega)
        have o2 : TxEq (M (19 + 2 * j)) (M (20 + 2 * j)) (N 1) j := o2
        refine ⟨o1.cgS (fun k k1 k2 => fS k (by omega) (by omega)), ?_⟩
        show TxEq (M' (19 + 2 * j)) (M' (20 + 2 * j)) (N' 1) j
        rw [fM (19 + 2 * j) (by omega) (by omega) (by omega) (by omega) (by omega), fM (20 + 2 * j) (by omega) (by omega) (by omega) (by omega) (by omega)]
        exact o2.cgS (fun k k1 k2 => fS k (by omega) (by omega))
    · rw [fM (48 + 4) (by omega) (by omega) (by omega) (by omega) (by omega)]
      exact p7.cgS (fS _ (by omega) (by omega)) (fun k _ _ => fS _ (by omega) (by omega))
    · rw [fM (48 + 5) (by omega) (by omega) (by omega) (by omega) (by omega), fM (48 + 6) (by omega) (by omega) (by omega) (by omega) (by omega)]
      exact p8.cgS (fun k _ _ => fS _ (by omega) (by omega))
    · rw [fM (48 + 7) (by omega) (by omega) (by omega) (by omega) (by omega)]
      exact p9.cgS (fun k _ _ => fS _ (by omega) (by omega))
  · rw [n3, fN 2 (by omega) (by omega), s1]
    rcases h3 with a | ⟨a, b, c⟩
    · exact Or.inl a
    · obtain ⟨t2, -, b5⟩ := id b.2.1
      rw [b5.2.1, ht, nI_toInt (by have := b5.1; omega), nI_toInt (by omega)] at c
      refine Or.inr ⟨a, b.cg2 b5.2.1 b5.1 (fM _ (by omega) (by omega) (by omega) (by omega) (by omega)) (fun x _ _ => fM x (by omega) (by omega) (by omega) (by omega) (by omega)) (fun j hj => ⟨fM _ (by omega) (by omega) (by omega) (by omega) (by omega), fM _ (by omega) (by omega) (by omega) (by omega) (by omega)⟩), ?_⟩
      rw [b5.2.1, nI_toInt (by have := b5.1; omega), nI_toInt (by omega)]
      omega
  · rw [m11, n13]
    exact ⟨0, by omega, rfl, rfl, fun i hi => by omega⟩
  · rw [fN 4 (by omega) (by omega), fN 5 (by omega) (by omega), fN 6 (by omega) (by omega)]; exact h5.cg (fun x _ _ => fM x (by omega) (by omega) (by omega) (by omega) (by omega))
  · rw [fN 7 (by omega) (by omega), fN 8 (by omega) (by omega), fN 9 (by omega) (by omega), fN 10 (by omega) (by omega), fN 11 (by omega) (by omega)]; exact h6.cg (fun x _ _ => fM x (by omega) (by omega) (by omega) (by omega) (by omega))
  · rw [fM 17 (by omega) (by omega) (by omega) (by omega) (by omega), c0, fN 22 (by omega) (by omega), n45]; exact h7
theorem q_law {M N : Mem} (h : Rel M N) : Eqv (f_X9_law M) (f_X10_law N) := by
  obtain ⟨L, hL, ex, ey, hB⟩ := h.2.2.1
  obtain ⟨t, ht, htx⟩ := h.1.2.1
  have ht14 := htx.1
  have hs1 := htx.2.1
  obtain ⟨A, hA, hAt, eP⟩ : ∃ A, A ≤ 3100 ∧ (290 + 200 * t ≤ A ∧ (t < 14 → A = 290 + 200 * t + 4)) ∧ f_X10_parse N = f_X10_parse_b60 (nI A) (mset (mset (mset (mset (mset (mset N 0 15 0) 0 16 3) 0 19 0) 0 20 0) 0 21 0) 0 23 0) := by
    unfold f_X10_parse f_X10_parse_b0 f_X10_parse_bc25_1
    have e1 : mset (mset (mset (mset (mset (mset N 0 15 0) 0 16 3) 0 19 0) 0 20 0) 0 21 0) 0 23 0 1 1 = nI t := by
      rw [mset_ne (by omega), mset_ne (by omega), mset_ne (by omega), mset_ne (by omega), mset_ne (by omega), mset_ne (by omega)]
      exact hs1
    rw [e1]
    by_cases q : t < 14
    · rw [if_neg (show ¬ (14 : Int32) ≤ nI t from nI_ge (a := t) (b := 14) q (by omega)), textAt_eq, bsm]
      dsimp only
      exact ⟨290 + 200 * t + 4, by omega, ⟨by omega, fun _ => rfl⟩, by rw [show nI (290 + 200 * t) + (4 : Int32) = nI (290 + 200 * t + 4) from by rw [show (4 : Int32) = nI 4 from rfl, nI_add]]⟩
    · rw [if_pos (show (14 : Int32) ≤ nI t from nI_le (a := 14) (by omega) (by omega))]
      exact ⟨3100, by omega, ⟨by omega, fun z => absurd z q⟩, rfl⟩
  unfold f_X9_law f_X9_law_b0 f_X4_readText f_X4_readText_b0 f_X4_readText_bc25_1 f_X10_law f_X10_law_b0
  rw [eP, f_X10_parse_b60]
  generalize hM0 : mset (mset (mset (mset (mset (mset M 1 3 0) 1 4 3) 1 8 0) 1 9 0) 1 10 0) 1 11 0 = M0
  generalize hN0 : mset (mset (mset (mset (mset (mset (mset N 0 15 0) 0 16 3) 0 19 0) 0 20 0) 0 21 0) 0 23 0) 0 22 (nI A) = N0
  have gM : ∀ x, x ≠ 1 → M0 x = M x := fun x hx => by rw [← hM0, mset_ne hx, mset_ne hx, mset_ne hx, mset_ne hx, mset_ne hx, mset_ne hx]
  have gN : ∀ x, x ≠ 0 → N0 x = N x := fun x hx => by rw [← hN0, mset_ne hx, mset_ne hx, mset_ne hx, mset_ne hx, mset_ne hx, mset_ne hx, mset_ne hx]
  have gk : ∀ k, (k < 15 ∨ 23 < k) → N0 0 k = N 0 k := fun k hk => by rw [← hN0, mset_k (by omega), mset_k (by omega), mset_k (by omega), mset_k (by omega), mset_k (by omega), mset_k (by omega), mset_k (by omega)]
  have m1 : M0 1 1 = M 1 1 := by rw [← hM0, mset_k (by omega), mset_k (by omega), mset_k (by omega), mset_k (by omega), mset_k (by omega), mset_k (by omega)]
  have hT : Tp (N 12) L M0 N0 := ⟨hL, by rw [m1]; exact ex, by rw [gk 13 (by omega)]; exact ey, fun i hi => ⟨by rw [gM 2 (by omega)]; exact (hB i hi).1, by rw [gN 12 (by omega)], (hB i hi).2⟩⟩
  obtain ⟨M', N', o1, o2, o3, o4, o5, o6⟩ := text_eq hT hA (by rw [← hM0, mset_k (by omega), mset_k (by omega), mset_k (by omega), mset_k (by omega), mset_k (by omega), mset_at]) (by rw [← hN0, mset_k (by omega), mset_k (by omega), mset_k (by omega), mset_k (by omega), mset_k (by omega), mset_k (by omega), mset_at]) (by rw [← hM0, mset_k (by omega), mset_k (by omega), mset_k (by omega), mset_k (by omega), mset_at]) (by rw [← hN0, mset_k (by omega), mset_k (by omega), mset_k (by omega), mset_k (by omega), mset_k (by omega), mset_at]) (by rw [← hM0, mset_k (by omega), mset_k (by omega), mset_k (by omega), mset_at]) (by rw [← hN0, mset_k (by omega), mset_at]) (by rw [← hM0, mset_k (by omega), mset_k (by omega), mset_at]) (by rw [← hN0, mset_k (by omega), mset_k (by omega), mset_at]) (by rw [← hM0, mset_k (by omega), mset_at]) (by rw [← hN0, mset_k (by omega), mset_k (by omega), mset_k (by omega), mset_k (by omega), mset_at]) (by rw [← hM0, mset_at]) (by rw [← hN0, mset_k (by omega), mset_k (by omega), mset_k (by omega), mset_at]) (by rw [← hN0, mset_at])
  have o1 : ∀ x, x ≠ 1 → x ≠ 3 → M' x = M x := fun x x1 x3 => by rw [o1 x x1 x3]; exact gM x x1
  have o2 : ∀ x, x ≠ 0 → x ≠ 1 → N' x = N x := fun x x0 x1 => by rw [o2 x x0 x1]; exact gN x x0
  have o3 : ∀ k, (k < 13 ∨ 23 < k) → N' 0 k = N 0 k := fun k hk => by rw [o3 k hk]; exact gk k (by omega)
  have o4 : ∀ j, j < A → N' 1 j = N 1 j := fun j hj => by rw [o4 j (Or.inl hj), gN 1 (by omega)]
  have R : Rel (mset M' 1 1 0) N' := h.used hs1 ht14 (fun x x1 x3 => by rw [mset_ne x1]; exact o1 x x1 x3) (by rw [mset_at]) o2 o5 (o3 3 (by omega)) (o3 45 (by omega)) (fun j hj => o4 j (by omega))
  rcases o6 with ⟨y1, y2, y3⟩ | ⟨kv, l, hkv, hl, y1, y2, y6, y7, y8, y9, y21, hC⟩
  · rw [y1, y2, bsm, bsm]
    dsimp only
    rw [if_pos rfl, if_neg (by decide), mset_k (show (2 : Nat) ≠ 1 by omega), y3]
    exact ⟨_, _, N', rfl, rfl, R⟩
  rw [y1, y2, bsm, bsm]
  dsimp only
  have m48 : mset M' 1 1 0 48 10 = nI t := by rw [mset_ne (by omega), o1 48 (by omega) (by omega)]; exact ht
  have n11 : N' 1 1 = nI t := by rw [o4 1 (by omega)]; exact hs1
  rw [if_neg (show ¬ (1 : Int32) = 0 by decide), if_pos (show (0 : Int32) ≤ nI kv from nI_le (a := 0) (by omega) (by omega)), m48]
  simp only [n11]
  by_cases q : t < 14
  rotate_left
  · rw [if_neg (show ¬ nI t < (14 : Int32) from nI_nlt (b := 14) (by omega) (by omega)), if_pos (show nI t = (14 : Int32) by rw [show t = 14 by omega]; rfl)]
    exact ⟨_, _, N', rfl, rfl, R⟩
  have hA4 := hAt.2 q
  obtain ⟨r1, -⟩ := rf_tx t q
  obtain ⟨M2, z1, z2, z3, z4, z5, z6, z7⟩ := takeT_eq (M := mset M' 1 1 0) q hl (by rw [mset_k (by omega)]; exact y9)
  rw [if_pos (show nI t < (14 : Int32) from nI_lt (b := 14) q (by omega)), if_neg (show ¬ nI t = (14 : Int32) from nI_ne (b := 14) (by omega) (by omega) (by omega)), if_pos (ixb_t q (by omega)), ix_nI (by omega), r1, z1, textAt_eq, bsm, bsm]
  dsimp only
  have i0 : nI (290 + 200 * t) + (0 : Int32) = nI (290 + 200 * t) := Int32.add_zero _
  have i1 : nI (290 + 200 * t) + (1 : Int32) = nI (290 + 200 * t + 1) := nI_1 _
  have i2 : nI (290 + 200 * t) + (2 : Int32) = nI (290 + 200 * t + 2) := by rw [show (2 : Int32) = nI 2 from rfl, nI_add]
  have m2t : M2 48 10 = nI t := by rw [z7 48 (by omega) (by omega)]; exact m48
  rw [m2t, mset_at, nI_1, i0, i1, if_pos (ixb_t (show 290 + 200 * t < 3300 by omega) (by omega)), if_pos (ixb_t (show 290 + 200 * t + 1 < 3300 by omega) (by omega)), ix_nI (show 290 + 200 * t < 2 ^ 31 by omega), ix_nI (show 290 + 200 * t + 1 < 2 ^ 31 by omega), f_X10_law_bc63_1, i2, if_pos (ixb_t (show 290 + 200 * t + 2 < 3300 by omega) (by omega)), ix_nI (show 290 + 200 * t + 2 < 2 ^ 31 by omega), f_X10_law_bc85_2, mset_at, mset_k (show 1 ≠ 290 + 200 * t + 2 by omega), mset_k (show 1 ≠ 290 + 200 * t + 1 by omega), mset_k (show 1 ≠ 290 + 200 * t by omega), n11, nI_1, mset_ne (show (0 : Nat) ≠ 1 by omega), mset_ne (show (0 : Nat) ≠ 1 by omega), mset_ne (show (0 : Nat) ≠ 1 by omega), y21]
  refine ⟨_, _, _, rfl, rfl, ?_⟩
  have nS : ∀ j, j ≠ 1 → j ≠ 290 + 200 * t → j ≠ 290 + 200 * t + 1 → j ≠ 290 + 200 * t + 2 → mset (mset (mset (mset N' 1 (290 + 200 * t) (nI kv)) 1 (290 + 200 * t + 1) (N' 0 23)) 1 (290 + 200 * t + 2) (nI l)) 1 1 (nI (t + 1)) 1 j = N' 1 j := fun j h1 h2 h3 h4 => by rw [mset_k h1, mset_k h4, mset_k h3, mset_k h2]
  have nx : ∀ x, x ≠ 1 → mset (mset (mset (mset N' 1 (290 + 200 * t) (nI kv)) 1 (290 + 200 * t + 1) (N' 0 23)) 1 (290 + 200 * t + 2) (nI l)) 1 1 (nI (t + 1)) x = N' x := fun x hx => by rw [mset_ne hx, mset_ne hx, mset_ne hx, mset_ne hx]
  obtain ⟨hC1, hC2⟩ := hC
  rw [hA4] at hC1 hC2
  refine h.text (t := t) (kv := kv) (l := l) hs1 q hkv hl (fun x x1 x3 x48 xa xb => by rw [mset_ne x48, z7 x xa xb, mset_ne x1]; exact o1 x x1 x3) (by rw [mset_ne (by omega), z7 1 (by omega) (by omega), mset_at]) (by rw [mset_at]) (fun k hk => by rw [mset_k hk, z7 48 (by omega) (by omega), mset_ne (by omega), o1 48 (by omega) (by omega)]) ?_ ?_ ?_ ?_ (fun x x0 x1 => by rw [nx x x1]; exact o2 x x0 x1) (by rw [nx 0 (by omega)]; exact o5) (by rw [nx 0 (by omega)]; exact o3 3 (by omega)) (by rw [nx 0 (by omega)]; exact o3 45 (by omega)) (by rw [mset_at]) ?_ ?_ (fun j hj hj1 => by rw [nS j hj1 (by omega) (by omega) (by omega)]; exact o4 j (by omega)) (fun p hp => ?_) ?_
  · rw [mset_ne (by omega), z2, mset_k (by omega)]; exact y6
  · rw [mset_ne (by omega), z3, mset_k (by omega)]; exact y7
  · rw [mset_ne (by omega), z4, mset_k (by omega), y8, mset_k (by omega), mset_k (by omega), mset_at]
  · rw [mset_ne (by omega)]; exact z5
  · rw [mset_k (by omega), mset_k (by omega), mset_k (by omega), mset_at]
  · rw [mset_k (by omega), mset_at]
  · rw [mset_ne (by omega), z6 p hp, mset_ne (by omega), nS _ (by omega) (by omega) (by omega) (by omega), nS _ (by omega) (by omega) (by omega) (by omega)]
    exact hC1 p hp
  · obtain ⟨D, d0, d1, d2⟩ := hC2
    refine ⟨D, d0, d1, fun p hp => ?_⟩
    rw [nS _ (by omega) (by omega) (by omega) (by omega), nS _ (by omega) (by omega) (by omega) (by omega)]
    exact d2 p hp
