/-! LAW: both read the tape -/
theorem RCo.cg2 {M M' : Mem} {S : Row} {co t : Nat} (h : RCo M S co) (hS : S 1 = nI t) (ht : t ≤ 14) (e : M' co = M co) (e1 : ∀ x, co + 2 ≤ x → x < co + 32 → M' x = M x) (e2 : ∀ j, j < t → M' (19 + 2 * j) = M (19 + 2 * j) ∧ M' (20 + 2 * j) = M (20 + 2 * j)) : RCo M' S co := by
  obtain ⟨⟨n, h1, h2, nc, cs, h3⟩, ⟨t', h4, h5⟩, ⟨np, h6, h7⟩, h8, h9, h10⟩ := h
  have hn := h2.1
  have htt := h5.1
  have : t' = t := (nI_eq (by omega) (by omega)).mp (h5.2.1.symm.trans hS)
  subst this
  refine ⟨⟨n, by rw [e]; exact h1, h2.cg (fun i hi => e1 _ (by omega) (by omega)), nc, cs, ?_⟩, ⟨t', by rw [e]; exact h4, h5.cg e2⟩, ⟨np, by rw [e]; exact h6, ?_⟩, ?_, ?_, by rw [e]; exact h10⟩
  · rw [e1 (co + 2) (by omega) (by omega), e1 (co + 3) (by omega) (by omega)]; exact h3
  · rw [e1 (co + 4) (by omega) (by omega)]; exact h7
  · rw [e1 (co + 5) (by omega) (by omega), e1 (co + 6) (by omega) (by omega)]; exact h8
  · rw [e1 (co + 7) (by omega) (by omega)]; exact h9
/-- the tape is used up, and what was laid is not yet a text -/
theorem Rel.used {M N M' N' : Mem} (h : Rel M N) {t : Nat} (ht : N 1 1 = nI t) (ht14 : t ≤ 14) (fM : ∀ x, x ≠ 1 → x ≠ 3 → M' x = M x) (m11 : M' 1 1 = 0) (fN : ∀ x, x ≠ 0 → x ≠ 1 → N' x = N x) (n13 : N' 0 13 = 0) (n3 : N' 0 3 = N 0 3) (n45 : N' 0 45 = N 0 45) (fS : ∀ j, j < 290 + 200 * t → N' 1 j = N 1 j) : Rel M' N' := by
  obtain ⟨h1, ⟨h2, h3⟩, h4, h5, h6, h7⟩ := h
  have c0 := fM 0 (by omega) (by omega)
  refine ⟨?_, ⟨by rw [c0, n3]; exact h2, ?_⟩, ?_, ?_, ?_, ?_⟩
  · have h1' := h1.cg (M' := M') (fM _ (by omega) (by omega)) (fun x _ _ => fM x (by omega) (by omega)) (fun x _ _ => fM x (by omega) (by omega))
    obtain ⟨⟨n, p1, p2, nc, cs, p3⟩, ⟨t', p4, p5⟩, ⟨np, p6, p7⟩, p8, p9, p10⟩ := h1'
    have hn := p2.1
    have : t' = t := (nI_eq (by have := p5.1; omega) (by omega)).mp (p5.2.1.symm.trans ht)
    subst this
    exact ⟨⟨n, p1, p2.cgS (fS _ (by omega)) (fun k _ _ => fS _ (by omega)), nc, cs, p3.cgS (fS _ (by omega)) (fun k _ _ => fS _ (by omega)) (fun i hi => fS _ (by omega))⟩, ⟨t', p4, p5.cgS (fS _ (by omega)) (fun k _ _ => fS _ (by omega))⟩, ⟨np, p6, p7.cgS (fS _ (by omega)) (fun k _ _ => fS _ (by omega))⟩, p8.cgS (fun k _ _ => fS _ (by omega)), p9.cgS (fun k _ _ => fS _ (by omega)), by rw [fS 4 (by omega)]; exact p10⟩
  · rw [n3, fN 2 (by omega) (by omega), fS 1 (by omega)]
    rcases h3 with a | ⟨a, b, c⟩
    · exact Or.inl a
    · exact Or.inr ⟨a, b.cg (fM _ (by omega) (by omega)) (fun x _ _ => fM x (by omega) (by omega)) (fun x _ _ => fM x (by omega) (by omega)), c⟩
  · rw [m11, n13]
    exact ⟨0, by omega, rfl, rfl, fun i hi => by omega⟩
  · rw [fN 4 (by omega) (by omega), fN 5 (by omega) (by omega), fN 6 (by omega) (by omega)]; exact h5.cg (fun x _ _ => fM x (by omega) (by omega))
  · rw [fN 7 (by omega) (by omega), fN 8 (by omega) (by omega), fN 9 (by omega) (by omega), fN 10 (by omega) (by omega), fN 11 (by omega) (by omega)]; exact h6.cg (fun x _ _ => fM x (by omega) (by omega))
  · rw [fM 17 (by omega) (by omega), c0, fN 22 (by omega) (by omega), n45]; exact h7
/-- what the reading came to -/
def Out (A t : Nat) (M N M' N' : Mem) (x y : Option (Int32 × Mem)) : Prop := (∀ x, x ≠ 1 → x ≠ 3 → M' x = M x) ∧ (∀ x, x ≠ 0 → x ≠ 1 → N' x = N x) ∧ (∀ k, (k < 13 ∨ 23 < k) → N' 0 k = N 0 k) ∧ (∀ j, (j < A ∨ A + 192 ≤ j) → N' 1 j = N 1 j) ∧ N' 0 13 = 0 ∧ ((x = some (0, M') ∧ y = some (-1, N') ∧ M' 1 2 = N' 0 14) ∨ ∃ kv l, kv < 9 ∧ l ≤ 96 ∧ x = some (1, M') ∧ y = some (nI kv, N') ∧ M' 1 6 = nI (kv / 3) ∧ M' 1 7 = nI (kv % 3) ∧ M' 1 8 = N' 0 23 ∧ M' 1 9 = nI l ∧ N' 0 21 = nI l ∧ Cd A l 1 M' N')
theorem key3 {T : Row} {L b e : Nat} {M N : Mem} (hT : Tp T L M N) (m2 : M 1 2 = nI b) (n14 : N 0 14 = nI b) (m3 : M 1 3 = nI e) (n15 : N 0 15 = nI e) (hbe : b ≤ e) (heL : e ≤ L) (hk : Tk T b e M N) : (f_X4_readKey M = f_X4_readKey_b42 (-1000000005) M ∧ f_X10_key N = f_X10_key_b65 (-1) N) ∨ ∃ k, k < 3 ∧ f_X4_readKey M = f_X4_readKey_b42 (nI k) M ∧ f_X10_key N = f_X10_key_b65 (nI (3 * k)) N := by
  have tk : M 1 4 = 2 ↔ N 0 16 = 1 := by
    rcases hk with t | t | t | t | t
    · rw [t.1, t.2]; decide
    · rw [t.2.1, t.2.2.1]; decide
    · rw [t.2.1, t.2.2.1]; decide
    · rw [t.2.1, t.2.2.1]; decide
    · rw [t.1, t.2]; decide
  obtain ⟨r0, s0, u0⟩ := spelt_eq (k := 0) hT (by omega) m2 m3 hbe heL
  obtain ⟨r1, s1, u1⟩ := spelt_eq (k := 1) hT (by omega) m2 m3 hbe heL
  obtain ⟨r2, s2, u2⟩ := spelt_eq (k := 2) hT (by omega) m2 m3 hbe heL
  obtain ⟨z0, w0, v0⟩ := log_eq hT n14 n15 hbe heL
  obtain ⟨z1, w1, v1⟩ := needle_eq hT n14 n15 hbe heL
  obtain ⟨z2, w2, v2⟩ := watch_eq hT n14 n15 hbe heL
  rw [tk] at u0 u1 u2
  unfold f_X4_readKey f_X4_readKey_b0 f_X10_key f_X10_key_b0
  rw [s0, w0, bsm, bsm]
  dsimp only
  by_cases q0 : r0 = 0
  rotate_left
  · rw [if_neg q0, if_neg (fun y => q0 (u0.mpr (v0.mp y)))]
    exact Or.inr ⟨0, by omega, rfl, rfl⟩
  rw [if_pos q0, if_pos (v0.mpr (u0.mp q0)), s1, w1, bsm, bsm]
  dsimp only
  by_cases q1 : r1 = 0
  rotate_left
  · rw [if_neg q1, if_neg (fun y => q1 (u1.mpr (v1.mp y)))]
    exact Or.inr ⟨1, by omega, rfl, rfl⟩
  rw [if_pos q1, if_pos (v1.mpr (u1.mp q1)), s2, w2, bsm, bsm]
  dsimp only
  by_cases q2 : r2 = 0
  rotate_left
  · rw [if_neg q2, if_neg (fun y => q2 (u2.mpr (v2.mp y)))]
    exact Or.inr ⟨2, by omega, rfl, rfl⟩
  rw [if_pos q2, if_pos (v2.mpr (u2.mp q2))]
  exact Or.inl ⟨rfl, rfl⟩
/-- from the first word on -/
theorem text_eq {T : Row} {L A : Nat} {M N : Mem} (hT : Tp T L M N) (hA : A ≤ 3100) (m3 : M 1 3 = 0) (n15 : N 0 15 = 0) (m4 : M 1 4 = 3) (n16 : N 0 16 = 3) (m8 : M 1 8 = 0) (n23 : N 0 23 = 0) (m9 : M 1 9 = 0) (n21 : N 0 21 = 0) (m10 : M 1 10 = 0) (n19 : N 0 19 = 0) (m11 : M 1 11 = 0) (n20 : N 0 20 = 0) (n22 : N 0 22 = nI A) : ∃ M' N', Out A 0 M N M' N' ((f_X4_step M).bind fun q1 => (f_X4_readKey q1.2).bind fun q2 => if q2.1 = 0 then some ((0 : Int32), q2.2) else (f_X4_readVoyage q2.2).bind fun q3 => if q3.1 = 0 then some ((0 : Int32), q3.2) else (f_X4_readLevel FR (0 : Int32) q3.2).bind fun q4 => if q4.1 = 0 then some ((0 : Int32), q4.2) else if (q4.2 1 4) = 0 then some ((1 : Int32), q4.2) else some ((0 : Int32), q4.2)) ((f_X10_goesOn N).bind fun q1 => (f_X10_key q1.2).bind fun q2 => if q2.1 < 0 then f_X10_parse_b81 q2.1 (0 : Int32) q2.2 else f_X10_parse_b81 q2.1 (1 : Int32) q2.2) := by
  have hL := hT.1
  obtain ⟨M1, N1, b1, e1, a1, a2, a3, a4, a5, a6, a7, a8, a9, a10, a11, a12, a13, a14⟩ := stp_eq (e0 := 0) hT (by omega) ⟨m3, n15, Or.inr ⟨by rw [m4]; decide, by rw [m4]; decide, by rw [n16]; decide, by rw [n16]; decide⟩⟩
  rw [a1, a2, bsm, bsm]
  dsimp only
  have T1 : Tp T L M1 N1 := hT.cg (a12 1 (by omega) (by omega) (by omega) (by omega)) (a11 2 (by omega)) (a14 13 (by omega)) (a13 12 (by omega))
  -- a wrong end
  have bad : ∀ (M2 N2 : Mem), (∀ x, x ≠ 1 → x ≠ 3 → M2 x = M x) → (∀ x, x ≠ 0 → x ≠ 1 → N2 x = N x) → (∀ k, (k < 14 ∨ 23 < k) → N2 0 k = N 0 k) → (∀ j, (j < A ∨ A + 192 ≤ j) → N2 1 j = N 1 j) → M2 1 2 = N2 0 14 → ∀ y : Option (Int32 × Mem), y = some (-1, mset N2 0 13 0) → ∃ M' N', Out A 0 M N M' N' (some ((0 : Int32), M2)) y := by
    intro M2 N2 u1 u2 u3 u4 u5 y hy
    refine ⟨M2, mset N2 0 13 0, u1, fun x x0 x1 => by rw [mset_ne x0]; exact u2 x x0 x1, fun k hk => by rw [mset_k (by omega)]; exact u3 k (by omega), fun j hj => by rw [mset_ne (by omega)]; exact u4 j hj, by rw [mset_at], Or.inl ⟨rfl, hy, ?_⟩⟩
    rw [mset_k (by omega)]
    exact u5
  rcases key3 T1 a6 a7 a8 a9 a4 a5 a10 with ⟨k1, k2⟩ | ⟨k, hk3, k1, k2⟩
  · rw [k1, k2, f_X4_readKey_b42, f_X10_key_b65, mset_at, if_pos rfl, if_neg (by decide), bsm, bsm]
    dsimp only
    rw [if_pos rfl, if_pos (by decide), f_X10_parse_b81, if_pos rfl, f_X10_parse_b111, if_pos rfl]
    exact bad _ N1 (fun x x1 x3 => by rw [mset_ne x1]; exact a11 x x1) (fun x x0 x1 => a13 x x0) (fun k hk => a14 k (by omega)) (fun j hj => by rw [a13 1 (by omega)]) (by rw [mset_k (by omega), a6, a7]) _ rfl
  -- a key
  have T1' : Tp T L (mset M1 1 6 (nI k)) N1 := T1.cg (by rw [mset_k (by omega)]) (mset_ne (by omega)) rfl rfl
  have B1 : Bf e1 (mset M1 1 6 (nI k)) N1 := by
    have := a10.bf a8 a9
    unfold Bf at this ⊢
    rw [mset_k (by omega), mset_k (by omega)]
    exact this
  obtain ⟨M2, N2, b2, e2, c1, c2, c3, c4, c5, c6, c7, c8, c9, c10, c11, c12, c13, c14⟩ := stp_eq T1' a5 B1
  have T2 : Tp T L M2 N2 := T1'.cg (c12 1 (by omega) (by omega) (by omega) (by omega)) (c11 2 (by omega)) (c14 13 (by omega)) (c13 12 (by omega))
  have f2 : ∀ x, x ≠ 1 → x ≠ 3 → M2 x = M x := fun x x1 x3 => by rw [c11 x x1, mset_ne x1]; exact a11 x x1
  have g2 : ∀ x, x ≠ 0 → N2 x = N x := fun x x0 => by rw [c13 x x0]; exact a13 x x0
  have gk2 : ∀ j, (j < 14 ∨ 18 < j) → N2 0 j = N 0 j := fun j hj => by rw [c14 j hj]; exact a14 j hj
  have mk2 : ∀ j, j ≠ 2 → j ≠ 3 → j ≠ 4 → j ≠ 5 → j ≠ 6 → M2 1 j = M 1 j := fun j h2 h3 h4 h5 h6 => by rw [c12 j h2 h3 h4 h5, mset_k h6]; exact a12 j h2 h3 h4 h5
  have m26 : M2 1 6 = nI k := by rw [c12 6 (by omega) (by omega) (by omega) (by omega), mset_at]
  have p0 : (0 : Int32) ≤ nI (3 * k) := nI_le (a := 0) (by omega) (by omega)
  have nn5 : ¬ nI k = (-1000000005 : Int32) := fun y => by rw [i_eq, nI_toInt (by omega), show (-1000000005 : Int32).toInt = -1000000005 from by decide] at y; omega
  rw [k1, k2, f_X4_readKey_b42, f_X10_key_b65, mset_at, if_neg nn5, if_pos p0, c1, c2, bsm, bsm, bsm]
  dsimp only
  rw [if_neg (show ¬ (1 : Int32) = 0 by decide), f_X4_readVoyage, f_X4_readVoyage_b0]
  -- no voyage
  have bad2 : ∀ y : Option (Int32 × Mem), y = some (-1, mset N2 0 13 0) → ∃ M' N', Out A 0 M N M' N' (some ((0 : Int32), M2)) y := bad M2 N2 f2 (fun x x0 _ => g2 x x0) (fun k hk => gk2 k (by omega)) (fun j _ => by rw [g2 1 (by omega)]) (by rw [c6, c7])
  have neg : ∀ v : Int32, v = -1 → (if v < 0 then f_X10_parse_b81 v (0 : Int32) N2 else f_X10_parse_b81 v (1 : Int32) N2) = some (-1, mset N2 0 13 0) := by
    rintro v rfl
    rw [if_pos (by decide), f_X10_parse_b81, if_pos rfl, f_X10_parse_b111, if_pos rfl]
  have noV : M2 1 4 ≠ 1 → N2 0 16 ≠ 2 → ∃ M' N', Out A 0 M N M' N' ((if M2 1 4 = 1 then if M2 1 5 < 3 then (f_X4_step (mset M2 1 7 (M2 1 5))).bind fun q1 => some ((1 : Int32), q1.2) else some (0, M2) else some (0, M2)).bind fun q3 => if q3.1 = 0 then some ((0 : Int32), q3.2) else (f_X4_readLevel FR (0 : Int32) q3.2).bind fun q4 => if q4.1 = 0 then some ((0 : Int32), q4.2) else if (q4.2 1 4) = 0 then some ((1 : Int32), q4.2) else some ((0 : Int32), q4.2)) ((if N2 0 16 = 2 then if 3 ≤ N2 0 17 then some ((-1 : Int32), N2) else some (nI (3 * k) + N2 0 17, N2) else some (-1, N2)).bind fun q2 => if q2.1 < 0 then f_X10_parse_b81 q2.1 (0 : Int32) q2.2 else f_X10_parse_b81 q2.1 (1 : Int32) q2.2) := by
    intro y1 y2
    rw [if_neg y1, if_neg y2, bsm, bsm]
    dsimp only
    rw [if_pos rfl]
    exact bad2 _ (neg _ rfl)
  rcases id c10 with t | t | t | t | t
  · exact noV (by rw [t.1]; decide) (by rw [t.2]; decide)
  rotate_left
  · exact noV (by rw [t.2.1]; decide) (by rw [t.2.2.1]; decide)
  · exact noV (by rw [t.2.1]; decide) (by rw [t.2.2.1]; decide)
  · exact noV (by rw [t.1]; decide) (by rw [t.2]; decide)
  obtain ⟨tbe, t4, t16, t5, tv⟩ := t
  rw [if_pos t4, if_pos t16]
  by_cases qv : (N2 0 17).toInt < 3
  rotate_left
  · rw [if_neg (show ¬ M2 1 5 < (3 : Int32) by rw [t5, i_lt, show (3 : Int32).toInt = 3 from by decide]; exact qv), if_pos (show (3 : Int32) ≤ N2 0 17 by rw [i_le, show (3 : Int32).toInt = 3 from by decide]; omega), bsm, bsm]
    dsimp only
    rw [if_pos rfl]
    exact bad2 _ (neg _ rfl)
  obtain ⟨v, hv3, ev⟩ := i_of (n := 3) (x := N2 0 17) tv.1 (by omega)
  rw [if_pos (show M2 1 5 < (3 : Int32) by rw [t5, i_lt, show (3 : Int32).toInt = 3 from by decide]; exact qv), if_neg (show ¬ (3 : Int32) ≤ N2 0 17 by rw [i_le, show (3 : Int32).toInt = 3 from by decide]; omega), t5, ev, nI_add, bsm]
  dsimp only
  have hkv : 3 * k + v < 9 := by omega
  rw [if_neg (nI_lt0 (by omega)), f_X10_parse_b81, if_neg (show ¬ (1 : Int32) = 0 by decide)]
  -- the expression
  have hdiv : (3 * k + v) / 3 = k := by omega
  have hmod : (3 * k + v) % 3 = v := by omega
  generalize hkk : 3 * k + v = kv at hkv hdiv hmod ⊢
  have P2 : Pr T L A kv 0 0 0 0 (mset M2 1 7 (nI v)) N2 := by
    refine ⟨T2.cg (by rw [mset_k (by omega)]) (mset_ne (by omega)) rfl rfl, ⟨by omega, by omega, hA⟩, ⟨?_, ?_, ?_⟩, ⟨?_, ?_, ?_, ?_⟩, ?_, ?_, ⟨fun p hp => by omega, fun _ => 0, rfl, rfl, fun p hp => by omega⟩⟩
    · rw [mset_k (by omega), mk2 9 (by omega) (by omega) (by omega) (by omega) (by omega)]; exact m9
    · rw [gk2 21 (by omega)]; exact n21
    · rw [gk2 22 (by omega)]; exact n22
    · rw [mset_k (by omega), mk2 10 (by omega) (by omega) (by omega) (by omega) (by omega)]; exact m10
    · rw [gk2 19 (by omega)]; exact n19
    · rw [mset_k (by omega), mk2 11 (by omega) (by omega) (by omega) (by omega) (by omega)]; exact m11
    · rw [gk2 20 (by omega)]; exact n20
    · rw [mset_k (by omega), mk2 8 (by omega) (by omega) (by omega) (by omega) (by omega), gk2 23 (by omega), m8, n23]
    · rw [mset_k (by omega), m26, hdiv]
  have B2 : Bf e2 (mset M2 1 7 (nI v)) N2 := by
    have := c10.bf c8 c9
    unfold Bf at this ⊢
    rw [mset_k (by omega), mset_k (by omega)]
    exact this
  obtain ⟨M3, N3, b3, e3, d1, d2, d3, p3, fc3, fm3⟩ := adv P2 c5 (by omega) B2
  rw [d1, d2, bsm, bsm, bsm]
  dsimp only
  rw [if_neg (show ¬ (1 : Int32) = 0 by decide)]
  have m37 : M3 1 7 = nI v := by rw [fc3.2.2.2, mset_at]
  have fM3 : ∀ x, x ≠ 1 → x ≠ 3 → M3 x = M x := fun x x1 x3 => by rw [fc3.1 x x1 x3, mset_ne x1]; exact f2 x x1 x3
  have fN3 : ∀ x, x ≠ 0 → x ≠ 1 → N3 x = N x := fun x x0 x1 => by rw [fm3.1 x x0 x1]; exact g2 x x0
  have fk3 : ∀ j, (j < 14 ∨ 23 < j) → N3 0 j = N 0 j := fun j hj => by rw [fm3.2.1 j hj]; exact gk2 j (by omega)
  have fj3 : ∀ j, (j < A ∨ A + 192 ≤ j) → N3 1 j = N 1 j := fun j hj => by rw [fm3.2.2 j hj, g2 1 (by omega)]
  rcases expr_eq hkv b3 e3 0 0 M3 N3 p3 with ⟨M4, N4, b4, e4, l4, x1, x2, x3, x4, p4, fc4, fm4⟩ | ⟨M4, N4, x1, x2, p4⟩
  rotate_left
  · rw [x1, x2, bsm, bsm]
    dsimp only
    rw [if_pos rfl, if_pos rfl, f_X10_parse_b109, f_X10_parse_b110, f_X10_parse_b111, if_pos rfl]
    exact bad M4 N4 (fun x x1 x3 => by rw [p4.2.2.1.1 x x1 x3]; exact fM3 x x1 x3) (fun x x0 x1 => by rw [p4.2.2.2.1 x x0 x1]; exact fN3 x x0 x1) (fun j hj => by rw [p4.2.2.2.2.1 j hj]; exact fk3 j hj) (fun j hj => by rw [p4.2.2.2.2.2 j hj]; exact fj3 j hj) p4.1 _ rfl
  rw [x1, x2, bsm, bsm]
  dsimp only
  rw [if_neg (show ¬ (1 : Int32) = 0 by decide), if_neg (show ¬ (1 : Int32) = 0 by decide)]
  have fM4 : ∀ x, x ≠ 1 → x ≠ 3 → M4 x = M x := fun x x1 x3 => by rw [fc4.1 x x1 x3]; exact fM3 x x1 x3
  have fN4 : ∀ x, x ≠ 0 → x ≠ 1 → N4 x = N x := fun x x0 x1 => by rw [fm4.1 x x0 x1]; exact fN3 x x0 x1
  have fk4 : ∀ j, (j < 14 ∨ 23 < j) → N4 0 j = N 0 j := fun j hj => by rw [fm4.2.1 j hj]; exact fk3 j hj
  have fj4 : ∀ j, (j < A ∨ A + 192 ≤ j) → N4 1 j = N 1 j := fun j hj => by rw [fm4.2.2 j hj]; exact fj3 j hj
  have noE : M4 1 4 ≠ 0 → N4 0 16 ≠ 0 → ∃ M' N', Out A 0 M N M' N' (if M4 1 4 = 0 then some (1, M4) else some (0, M4)) (if N4 0 16 = 0 then f_X10_parse_b110 (nI kv) 1 N4 else f_X10_parse_b109 (nI kv) N4) := by
    intro y1 y2
    rw [if_neg y1, if_neg y2, f_X10_parse_b109, f_X10_parse_b110, f_X10_parse_b111, if_pos rfl]
    exact bad M4 N4 fM4 fN4 fk4 fj4 (by rw [p4.2.2.1.1, p4.2.2.1.2.1]) _ rfl
  rcases p4.2.2.2 with t | t | t | t | t
  · have hpt := p4.tp
    obtain ⟨-, -, q2, -, q4, q5, q6⟩ := p4.1
    rw [if_pos t.1, if_pos t.2, f_X10_parse_b110, f_X10_parse_b111, if_neg (show ¬ (1 : Int32) = 0 by decide)]
    refine ⟨M4, mset N4 0 13 0, fM4, fun x x0 x1 => by rw [mset_ne x0]; exact fN4 x x0 x1, fun j hj => by rw [mset_k (by omega)]; exact fk4 j (by omega), fun j hj => by rw [mset_ne (by omega)]; exact fj4 j hj, by rw [mset_at], Or.inr ⟨kv, l4, hkv, by omega, rfl, rfl, q5, by rw [fc4.2.2.2, m37, hmod], by rw [mset_k (by omega)]; exact q4, q2.1, by rw [mset_k (by omega)]; exact q2.2.1, q6.cg rfl (mset_ne (by omega))⟩⟩
  · exact noE (by rw [t.2.1]; decide) (by rw [t.2.2.1]; decide)
  · exact noE (by rw [t.2.1]; decide) (by rw [t.2.2.1]; decide)
  · exact noE (by rw [t.2.1]; decide) (by rw [t.2.2.1]; decide)
  · exact noE (by rw [t.1]; decide) (by rw [t.2]; decide)
