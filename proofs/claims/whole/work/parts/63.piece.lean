/-! READING: a piece -/
theorem Pr.nots {T : Row} {L A kv l h br nt nt' : Nat} {M N : Mem} (p : Pr T L A kv l h br nt M N) (hn : nt' ≤ 8) : Pr T L A kv l h br nt' (mset M 1 11 (nI nt')) (mset N 0 20 (nI nt')) := by
  obtain ⟨hT, p1, p2, p3, p4, p5, p6⟩ := p
  refine ⟨hT.cg (by rw [mset_k (by omega)]) (mset_ne (by omega)) (by rw [mset_k (by omega)]) (mset_ne (by omega)), ⟨p1.1, hn, p1.2.2⟩, ?_, ?_, ?_, ?_, p6.cg (mset_ne (by omega)) (mset_ne (by omega))⟩
  · rw [mset_k (by omega), mset_k (by omega), mset_k (by omega)]; exact p2
  · rw [mset_k (by omega), mset_k (by omega), mset_at, mset_at]; exact ⟨p3.1, p3.2.1, rfl, rfl⟩
  · rw [mset_k (by omega), mset_k (by omega)]; exact p4
  · rw [mset_k (by omega)]; exact p5
theorem Pr.brs {T : Row} {L A kv l h br br' nt : Nat} {M N : Mem} (p : Pr T L A kv l h br nt M N) (hn : br' ≤ 8) : Pr T L A kv l h br' nt (mset M 1 10 (nI br')) (mset N 0 19 (nI br')) := by
  obtain ⟨hT, p1, p2, p3, p4, p5, p6⟩ := p
  refine ⟨hT.cg (by rw [mset_k (by omega)]) (mset_ne (by omega)) (by rw [mset_k (by omega)]) (mset_ne (by omega)), ⟨hn, p1.2.1, p1.2.2⟩, ?_, ?_, ?_, ?_, p6.cg (mset_ne (by omega)) (mset_ne (by omega))⟩
  · rw [mset_k (by omega), mset_k (by omega), mset_k (by omega)]; exact p2
  · rw [mset_at, mset_at, mset_k (by omega), mset_k (by omega)]; exact ⟨rfl, rfl, p3.2.2.1, p3.2.2.2⟩
  · rw [mset_k (by omega), mset_k (by omega)]; exact p4
  · rw [mset_k (by omega)]; exact p5
theorem Fc.set {M : Mem} {k : Nat} {v : Int32} (hk : k = 10 ∨ k = 11) : Fc M (mset M 1 k v) := ⟨fun x x1 _ => mset_ne x1, by rw [mset_k (by omega)], by rw [mset_k (by omega)], by rw [mset_k (by omega)]⟩
theorem Fm.set {A : Nat} {N : Mem} {k : Nat} {v : Int32} (hk : k = 19 ∨ k = 20) : Fm A N (mset N 0 k v) := ⟨fun x x0 _ => mset_ne x0, fun k' hk' => by rw [mset_k (by omega)], fun j _ => by rw [mset_ne (by omega)]⟩
theorem Bf.set {e : Nat} {M N : Mem} {k k' : Nat} {v v' : Int32} (h : Bf e M N) (hk : k = 10 ∨ k = 11) (hk' : k' = 19 ∨ k' = 20) : Bf e (mset M 1 k v) (mset N 0 k' v') := by
  unfold Bf at h ⊢
  rw [mset_k (by omega), mset_k (by omega), mset_k (by omega), mset_k (by omega)]
  exact h
theorem Ps.nots {T : Row} {L A kv b e l h br nt nt' : Nat} {M N : Mem} (p : Ps T L A kv b e l h br nt M N) (hn : nt' ≤ 8) : Ps T L A kv b e l h br nt' (mset M 1 11 (nI nt')) (mset N 0 20 (nI nt')) := by
  refine ⟨p.1.nots hn, p.2.1, ?_, p.2.2.2.cg (by rw [mset_k (by omega)]) (by rw [mset_k (by omega)]) (by rw [mset_k (by omega)]) (by rw [mset_k (by omega)]) (by rw [mset_k (by omega)])⟩
  rw [mset_k (by omega), mset_k (by omega), mset_k (by omega), mset_k (by omega)]
  exact p.2.2.1
/-- ! PIECE -/
theorem not_eq {T : Row} {L A kv b e l h br nt : Nat} {M N : Mem} {RP : Mem → Option (Int32 × Mem)} {GE GP : Int32 → Mem → Option (Int32 × Mem)} (Hn : nt < 8 → PEq T L A kv RP (GP (nI kv)) br (nt + 1)) (p : Ps T L A kv b e l h br nt M N) (hbe : b < e) (t16 : N 0 16 = 3) (t18 : N 0 18 = 33) : Rd T L A kv b l (h + 1) br nt M N (f_X4_readNot_b0 RP M) (f_X10_part0_b84 GE GP (nI kv) N) 1 := by
  have hp := p.2.1
  have hL := p.1.1.1
  have h8 := p.1.2.1
  obtain ⟨k1, k2, k3, k4⟩ := p.1.2.2.2.1
  rw [f_X4_readNot_b0, f_X10_part0_b84, isSign_eq, bsm, k3]
  dsimp only
  rw [if_neg (sgY t16 t18)]
  simp only [k4]
  by_cases q : nt < 8
  rotate_left
  · rw [if_neg (show ¬ nI nt < (8 : Int32) from nI_nlt (b := 8) (by omega) (by omega)), if_pos (show (8 : Int32) ≤ nI nt from nI_le (a := 8) (by omega) (by omega)), f_X10_part0_b145, isSign_eq, bsm]
    dsimp only
    rw [if_pos (sgN (fun z => by rw [t18] at z; exact absurd z.2 (by decide)))]
    exact Or.inr ⟨M, N, rfl, rfl, p.pf⟩
  rw [if_pos (show nI nt < (8 : Int32) from nI_lt (b := 8) q (by omega)), if_neg (show ¬ (8 : Int32) ≤ nI nt from nI_ge (a := nt) (b := 8) q (by omega)), nI_1]
  obtain ⟨M1, N1, b1, e1, c1, c2, c3, p1, fc1, fm1⟩ := adv (p.1.nots (nt' := nt + 1) (by omega)) hp.2.1 (by omega) ((p.2.2.2.bf p.2.2.1.2.2.1 p.2.2.1.2.2.2).set (Or.inr rfl) (Or.inr rfl))
  have fc1 := (Fc.set (M := M) (k := 11) (v := nI (nt + 1)) (Or.inr rfl)).tr fc1
  have fm1 := (Fm.set (A := A) (N := N) (k := 20) (v := nI (nt + 1)) (Or.inr rfl)).tr fm1
  rw [c1, c2, bsm, bsm]
  dsimp only
  rcases Hn q b1 e1 l h M1 N1 p1 with ⟨M2, N2, b2, e2, l2, x1, x2, x3, x4, p2, fc2, fm2⟩ | ⟨M2, N2, x1, x2, p2⟩
  · have hp2 := p2.2.1
    obtain ⟨-, -, j3, j4⟩ := p2.1.2.2.2.1
    obtain ⟨M3, N3, y1, y2, p3, fc3, fm3⟩ := (p2.nots (nt' := nt) (by omega)).op (by omega) (w := 2) (v := 33) (x := -33) (h' := h + 1) (by decide) (Or.inr (Or.inr (Or.inl ⟨rfl, rfl, by omega, rfl⟩)))
    rw [x1, x2, bsm, bsm]
    dsimp only
    rw [if_neg (show ¬ (1 : Int32) = 0 by decide), j3, j4, nI_sub1 (by omega), show nt + 1 - 1 = nt from by omega, y1, y2, bsm, bsm]
    dsimp only
    rw [if_pos z01_1]
    exact Or.inl ⟨M3, N3, b2, e2, l2 + 1, rfl, rfl, by omega, by omega, p3, fc1.tr (fc2.tr ((Fc.set (Or.inr rfl)).tr fc3)), fm1.tr (fm2.tr ((Fm.set (Or.inr rfl)).tr fm3))⟩
  · obtain ⟨M3, y1, y2, y3, fc3⟩ := emitF (M := mset M2 1 11 (M2 1 11 - 1)) (by
      obtain ⟨lx, u1, u2⟩ := p2.2.1
      exact ⟨lx, u1, by rw [mset_k (by omega)]; exact u2⟩) (-33)
    rw [x1, x2, bsm, bsm]
    dsimp only
    rw [if_pos rfl, y1, bsm]
    dsimp only
    rw [if_pos z01_0]
    exact Or.inr ⟨M3, N2, rfl, rfl, by rw [y2, mset_k (by omega)]; exact p2.1, y3, fc1.tr (p2.2.2.1.tr ((Fc.set (Or.inr rfl)).tr fc3)), fm1.tr p2.2.2.2⟩
/-- ( E ) -/
theorem brk_eq {T : Row} {L A kv b e l h br nt : Nat} {M N : Mem} {RL : Int32 → Mem → Option (Int32 × Mem)} {GE GP : Int32 → Mem → Option (Int32 × Mem)} (Hb : br < 8 → PEq T L A kv (RL 0) (GE (nI kv)) (br + 1) nt) (p : Ps T L A kv b e l h br nt M N) (hbe : b < e) (t16 : N 0 16 = 3) (t18 : N 0 18 = 40) : Rd T L A kv b l (h + 1) br nt M N (f_X4_readBrackets_b0 RL M) (f_X10_part0_b84 GE GP (nI kv) N) 1 := by
  have hp := p.2.1
  have hL := p.1.1.1
  have h8 := p.1.2.1
  obtain ⟨k1, k2, k3, k4⟩ := p.1.2.2.2.1
  rw [f_X4_readBrackets_b0, f_X10_part0_b84, isSign_eq, bsm, k1]
  dsimp only
  rw [if_pos (sgN (fun z => by rw [t18] at z; exact absurd z.2 (by decide))), f_X10_part0_b145, isSign_eq, bsm]
  dsimp only
  rw [if_neg (sgY t16 t18)]
  simp only [k2]
  by_cases q : br < 8
  rotate_left
  · rw [if_neg (show ¬ nI br < (8 : Int32) from nI_nlt (b := 8) (by omega) (by omega)), if_pos (show nI br = (8 : Int32) by rw [show br = 8 by omega]; rfl)]
    exact Or.inr ⟨M, N, rfl, rfl, p.pf⟩
  rw [if_pos (show nI br < (8 : Int32) from nI_lt (b := 8) q (by omega)), if_neg (show ¬ nI br = (8 : Int32) from nI_ne (b := 8) (by omega) (by omega) (by omega)), nI_1]
  obtain ⟨M1, N1, b1, e1, c1, c2, c3, p1, fc1, fm1⟩ := adv (p.1.brs (br' := br + 1) (by omega)) hp.2.1 (by omega) ((p.2.2.2.bf p.2.2.1.2.2.1 p.2.2.1.2.2.2).set (Or.inl rfl) (Or.inl rfl))
  have fc1 := (Fc.set (M := M) (k := 10) (v := nI (br + 1)) (Or.inl rfl)).tr fc1
  have fm1 := (Fm.set (A := A) (N := N) (k := 19) (v := nI (br + 1)) (Or.inl rfl)).tr fm1
  rw [c1, c2, bsm, bsm]
  dsimp only
  have b54 : ∀ M2 : Mem, f_X4_readBrackets_b54 RL M2 = some (0, mset M2 1 10 (M2 1 10 - 1)) := fun M2 => by
    rw [f_X4_readBrackets_b54, f_X4_readBrackets_b55, if_pos rfl, if_pos z01_0]
  have bad : ∀ M2 N2 : Mem, Pf A M1 N1 M2 N2 → Rd T L A kv b l (h + 1) br nt M N (f_X4_readBrackets_b54 RL M2) (some ((0 : Int32), N2)) 1 := fun M2 N2 p2 => by
    rw [b54]
    refine Or.inr ⟨_, N2, rfl, rfl, by rw [mset_k (by omega)]; exact p2.1, ?_, fc1.tr (p2.2.2.1.tr (Fc.set (Or.inl rfl))), fm1.tr p2.2.2.2⟩
    obtain ⟨lx, u1, u2⟩ := p2.2.1
    exact ⟨lx, u1, by rw [mset_k (by omega)]; exact u2⟩
  rcases Hb q b1 e1 l h M1 N1 p1 with ⟨M2, N2, b2, e2, l2, x1, x2, x3, x4, p2, fc2, fm2⟩ | ⟨M2, N2, x1, x2, p2⟩
  rotate_left
  · rw [x1, x2, bsm, bsm]
    dsimp only
    rw [if_pos rfl, if_pos rfl]
    exact bad M2 N2 p2
  have hp2 := p2.2.1
  obtain ⟨j1, j2, -, -⟩ := p2.1.2.2.2.1
  rw [x1, x2, bsm, bsm]
  dsimp only
  rw [if_neg (show ¬ (1 : Int32) = 0 by decide), if_neg (show ¬ (1 : Int32) = 0 by decide), isSign_eq, bsm]
  dsimp only
  have pf2 : Pf A M1 N1 M2 N2 := ⟨p2.pf.1, p2.pf.2.1, fc2, fm2⟩
  have nope : M2 1 4 ≠ 3 → N2 0 16 ≠ 3 → Rd T L A kv b l (h + 1) br nt M N (if M2 1 4 = (3 : Int32) then (if M2 1 5 = (41 : Int32) then f_X4_readBrackets_b55 RL (1 : Int32) M2 else f_X4_readBrackets_b54 RL M2) else f_X4_readBrackets_b54 RL M2) (if b2i (N2 0 16 = 3 ∧ N2 0 18 = 41) = 0 then some ((0 : Int32), N2) else (f_X10_goesOn (mset N2 0 19 ((N2 0 19) - (1 : Int32)))).bind fun q5 => some ((1 : Int32), q5.2)) 1 := fun u1 u2 => by
    rw [if_neg u1, if_pos (sgN (fun z => u2 z.1))]
    exact bad M2 N2 pf2
  rcases p2.2.2.2 with t | t | t | t | t
  · exact nope (by rw [t.1]; decide) (by rw [t.2]; decide)
  · exact nope (by rw [t.2.1]; decide) (by rw [t.2.2.1]; decide)
  · exact nope (by rw [t.2.1]; decide) (by rw [t.2.2.1]; decide)
  · obtain ⟨tbe, t4, t16', t5, t18'⟩ := t
    rw [if_pos t4]
    by_cases q2 : T b2 = 41
    · obtain ⟨M3, N3, b3, e3, y1, y2, y3, p3, fc3, fm3⟩ := adv (p2.1.brs (br' := br) (by omega)) hp2.2.1 (by omega) ((p2.2.2.2.bf p2.2.2.1.2.2.1 p2.2.2.1.2.2.2).set (Or.inl rfl) (Or.inl rfl))
      rw [if_pos (t5.trans q2), if_neg (sgY t16' (by rw [t18', q2])), f_X4_readBrackets_b55, if_neg (show ¬ (1 : Int32) = 0 by decide), j1, j2, nI_sub1 (by omega), show br + 1 - 1 = br from by omega, y1, y2, bsm, bsm]
      dsimp only
      rw [if_pos z01_1]
      exact Or.inl ⟨M3, N3, b3, e3, l2, rfl, rfl, by omega, by omega, p3, fc1.tr (fc2.tr ((Fc.set (Or.inl rfl)).tr fc3)), fm1.tr (fm2.tr ((Fm.set (Or.inl rfl)).tr fm3))⟩
    · rw [if_neg (fun z => q2 (t5.symm.trans z)), if_pos (sgN (fun z => q2 (by rw [← t18']; exact z.2)))]
      exact bad M2 N2 pf2
  · exact nope (by rw [t.1]; decide) (by rw [t.2]; decide)
theorem piece_eq {T : Row} {L A kv br nt : Nat} {RL : Int32 → Mem → Option (Int32 × Mem)} {RP : Mem → Option (Int32 × Mem)} {GE GP : Int32 → Mem → Option (Int32 × Mem)} (hkv : kv < 9) (Hn : nt < 8 → PEq T L A kv RP (GP (nI kv)) br (nt + 1)) (Hb : br < 8 → PEq T L A kv (RL 0) (GE (nI kv)) (br + 1) nt) : PEq T L A kv (f_X4_readPiece_b0 (f_X4_readBrackets_b0 RL) (f_X4_readNot_b0 RP)) (f_X10_part0_b0 GE GP (nI kv)) br nt := by
  intro b e l h M N p
  have hp := p.2.1
  have hL := p.1.1.1
  obtain ⟨m2, n14, m3, n15⟩ := p.2.2.1
  have m6 := p.1.2.2.2.2.2.1
  -- no word at all
  have none : M 1 4 ≠ 1 → M 1 4 ≠ 2 → M 1 4 ≠ 3 → N 0 16 ≠ 1 → N 0 16 ≠ 2 → N 0 16 ≠ 3 → Rd T L A kv b l (h + 1) br nt M N (f_X4_readPiece_b0 (f_X4_readBrackets_b0 RL) (f_X4_readNot_b0 RP) M) (f_X10_part0_b0 GE GP (nI kv) N) 1 := by
    intro u1 u2 u3 v1 v2 v3
    obtain ⟨r3, s1, s2⟩ := spelt_eq (k := 3) p.1.1 (by omega) m2 m3 hp.1 hp.2.1
    obtain ⟨r4, s3, s4⟩ := spelt_eq (k := 4) p.1.1 (by omega) m2 m3 hp.1 hp.2.1
    obtain ⟨r5, s5, s6⟩ := spelt_eq (k := 5) p.1.1 (by omega) m2 m3 hp.1 hp.2.1
    rw [f_X4_readPiece_b0, if_neg u3, if_neg u1, s1, bsm]
    dsimp only
    rw [if_pos (s2.mpr (fun z => u2 z.1)), s3, bsm]
    dsimp only
    rw [if_pos (s4.mpr (fun z => u2 z.1)), s5, bsm]
    dsimp only
    rw [if_pos (s6.mpr (fun z => u2 z.1)), f_X10_part0_b0, if_neg v2, if_neg v1, b84_no _ (fun z => v3 z.1) (fun z => v3 z.1)]
    refine Or.inr ⟨M, N, ?_, rfl, p.pf⟩
    split <;> rfl
  rcases p.2.2.2 with t | t | t | t | t
  · exact none (by rw [t.1]; decide) (by rw [t.1]; decide) (by rw [t.1]; decide) (by rw [t.2]; decide) (by rw [t.2]; decide) (by rw [t.2]; decide)
  · obtain ⟨tbe, t4, t16, t5, tv⟩ := t
    have := leaf_eq p tbe (w := 0) (v := N 0 17) (x := N 0 17) (by unfold codeOf; rw [if_pos rfl]) (Or.inl ⟨rfl, tv, rfl⟩) (f_X4_readBrackets_b0 RL) (f_X4_readNot_b0 RP)
    rw [f_X4_readPiece_b0, f_X10_part0_b0, t4, t16, if_neg (by decide), if_pos rfl, if_pos rfl, t5]
    exact this
  · obtain ⟨tbe, t4, t16, t18, tl⟩ := t
    obtain ⟨r3, s1, s2⟩ := spelt_eq (k := 3) p.1.1 (by omega) m2 m3 hp.1 hp.2.1
    obtain ⟨r4, s3, s4⟩ := spelt_eq (k := 4) p.1.1 (by omega) m2 m3 hp.1 hp.2.1
    obtain ⟨r5, s5, s6⟩ := spelt_eq (k := 5) p.1.1 (by omega) m2 m3 hp.1 hp.2.1
    rw [sp1 (c := 100) (Or.inl ⟨rfl, rfl⟩)] at s2
    rw [sp1 (c := 97) (Or.inr (Or.inl ⟨rfl, rfl⟩))] at s4
    rw [sp1 (c := 111) (Or.inr (Or.inr ⟨rfl, rfl⟩))] at s6
    obtain ⟨tb1, -, -⟩ := p.1.1.2.2.2 b (by omega)
    have hlb := tl b (Nat.le_refl _) tbe
    have tz : ¬ T b = 0 := fun z => by rw [z] at hlb; exact absurd hlb (by decide)
    -- a name
    have yes : e = b + 1 → (T b = 100 ∨ T b = 97 ∨ (T b = 111 ∧ kv / 3 = 1)) → Rd T L A kv b l (h + 1) br nt M N (f_X4_readPiece_b100 (f_X4_readBrackets_b0 RL) (f_X4_readNot_b0 RP) M) (f_X10_part0_b0 GE GP (nI kv) N) 1 := by
      intro he hn
      have := leaf_eq p tbe (w := 1) (v := T b) (x := -(T b)) (by unfold codeOf; rw [if_neg (by decide)]) (Or.inr (Or.inl ⟨rfl, by rcases hn with z | z | z; exact Or.inl z; exact Or.inr (Or.inl z); exact Or.inr (Or.inr z.1), rfl⟩)) (f_X4_readBrackets_b0 RL) (f_X4_readNot_b0 RP)
      rw [if_pos he] at t18
      rw [f_X4_readPiece_b100, m2, if_pos (ixb_t (show b < 96 by omega) (by omega)), ix_nI (by omega), tb1, f_X10_part0_b0, t16, if_neg (by decide), if_pos rfl, t18, if_neg tz, isName_eq hkv, bsm]
      dsimp only
      rw [if_neg (by rw [b2i_eq0]; exact nn hn), t18]
      exact this
    have no : ¬ (e = b + 1 ∧ (T b = 100 ∨ T b = 97 ∨ (T b = 111 ∧ kv / 3 = 1))) → f_X10_part0_b0 GE GP (nI kv) N = some (0, N) := by
      intro hn
      rw [f_X10_part0_b0, t16, if_neg (by decide), if_pos rfl]
      have n3 : ¬ N 0 16 = 3 := by rw [t16]; decide
      by_cases he : e = b + 1
      · rw [if_pos he] at t18
        rw [t18, if_neg tz, isName_eq hkv, bsm]
        dsimp only
        rw [if_pos (by rw [b2i_eq0]; exact fun z => hn ⟨he, z⟩), b84_no _ (fun z => n3 z.1) (fun z => n3 z.1)]
      · rw [if_neg he] at t18
        rw [t18, if_pos rfl, b84_no _ (fun z => n3 z.1) (fun z => n3 z.1)]
    rw [f_X4_readPiece_b0, t4, if_neg (by decide), if_neg (by decide), s1, bsm]
    dsimp only
    by_cases q3 : r3 = 0
    rotate_left
    · obtain ⟨-, z1, z2⟩ := Classical.not_not.mp (fun u => q3 (s2.mpr u))
      rw [if_neg q3]
      exact yes z1 (Or.inl z2)
    rw [if_pos q3, s3, bsm]
    dsimp only
    by_cases q4 : r4 = 0
    rotate_left
    · obtain ⟨-, z1, z2⟩ := Classical.not_not.mp (fun u => q4 (s4.mpr u))
      rw [if_neg q4]
      exact yes z1 (Or.inr (Or.inl z2))
    rw [if_pos q4]
    simp only [m6]
    have h3 := s2.mp q3
    have h4 := s4.mp q4
    by_cases qk : kv / 3 = 1
    · rw [if_pos (show nI (kv / 3) = (1 : Int32) by rw [qk]; rfl), s5, bsm]
      dsimp only
      by_cases q5 : r5 = 0
      · have h5 := s6.mp q5
        rw [if_pos q5, no (by
          rintro ⟨z1, z | z | z⟩
          · exact h3 ⟨t4, z1, z⟩
          · exact h4 ⟨t4, z1, z⟩
          · exact h5 ⟨t4, z1, z.1⟩)]
        exact Or.inr ⟨M, N, rfl, rfl, p.pf⟩
      · obtain ⟨-, z1, z2⟩ := Classical.not_not.mp (fun u => q5 (s6.mpr u))
        rw [if_neg q5]
        exact yes z1 (Or.inr (Or.inr ⟨z2, qk⟩))
    · rw [if_neg (show ¬ nI (kv / 3) = (1 : Int32) from nI_ne (b := 1) (by omega) (by omega) qk), no (by
          rintro ⟨z1, z | z | z⟩
          · exact h3 ⟨t4, z1, z⟩
          · exact h4 ⟨t4, z1, z⟩
          · exact qk z.2)]
      exact Or.inr ⟨M, N, rfl, rfl, p.pf⟩
  · obtain ⟨tbe, t4, t16, t5, t18⟩ := t
    have eM : f_X10_part0_b0 GE GP (nI kv) N = f_X10_part0_b84 GE GP (nI kv) N := by
      rw [f_X10_part0_b0, t16, if_neg (by decide), if_neg (by decide)]
    rw [eM, f_X4_readPiece_b0, t4, if_pos rfl, t5]
    by_cases q1 : T b = 33
    · rw [if_pos q1]
      rcases not_eq (RP := RP) (GE := GE) (GP := GP) Hn p tbe t16 (by rw [t18, q1]) with ⟨M1, N1, b1, e1, l1, x1, x2, x3, x4, p1, fc1, fm1⟩ | ⟨M1, N1, x1, x2, p1⟩
      · rw [x1, x2, bsm]
        exact Or.inl ⟨M1, N1, b1, e1, l1, rfl, rfl, x3, x4, p1, fc1, fm1⟩
      · rw [x1, x2, bsm]
        exact Or.inr ⟨M1, N1, rfl, rfl, p1⟩
    rw [if_neg q1]
    by_cases q2 : T b = 40
    · rw [if_pos q2]
      rcases brk_eq (RL := RL) (GE := GE) (GP := GP) Hb p tbe t16 (by rw [t18, q2]) with ⟨M1, N1, b1, e1, l1, x1, x2, x3, x4, p1, fc1, fm1⟩ | ⟨M1, N1, x1, x2, p1⟩
      · rw [x1, x2, bsm]
        dsimp only
        rw [if_neg (show ¬ (1 : Int32) = 0 by decide)]
        exact Or.inl ⟨M1, N1, b1, e1, l1, rfl, rfl, x3, x4, p1, fc1, fm1⟩
      · rw [x1, x2, bsm]
        dsimp only
        rw [if_pos rfl]
        exact Or.inr ⟨M1, N1, rfl, rfl, p1⟩
    rw [if_neg q2, b84_no _ (fun z => q1 (by rw [← t18]; exact z.2)) (fun z => q2 (by rw [← t18]; exact z.2))]
    exact Or.inr ⟨M, N, rfl, rfl, p.pf⟩
  · exact none (by rw [t.1]; decide) (by rw [t.1]; decide) (by rw [t.1]; decide) (by rw [t.2]; decide) (by rw [t.2]; decide) (by rw [t.2]; decide)
theorem level0 {T : Row} {L A kv br nt X X' : Nat} (H : ∀ d d', X ≤ d → X' ≤ d' → PEq T L A kv (G_X4_readBrackets d).2.2.2 ((G_X10_both d').2.2.1 (nI kv)) br nt) {d d' : Nat} (hd : X + 6 ≤ d) (hd' : X' + 5 ≤ d') : PEq T L A kv ((G_X4_readBrackets d).2.1 0) ((G_X10_both d').2.1 (nI kv)) br nt := by
  obtain ⟨d, rfl⟩ : ∃ x, d = x + 6 := ⟨d - 6, by omega⟩
  obtain ⟨d', rfl⟩ : ∃ x, d' = x + 5 := ⟨d' - 5, by omega⟩
  have h5 : PEq T L A kv ((G_X4_readBrackets (d + 1)).2.1 (nI 5)) ((G_X10_both d').2.2.1 (nI kv)) br nt := levP (F := (G_X4_readBrackets d).2.1) (H d d' (by omega) (by omega))
  have h4 : PEq T L A kv ((G_X4_readBrackets (d + 2)).2.1 (nI 4)) ((G_X10_both (d' + 1)).2.2.2.2.1 (nI kv)) br nt := levM (F := (G_X4_readBrackets (d + 1)).2.1) (Fp := (G_X4_readBrackets (d + 1)).2.2.2) (G := (G_X10_both d').2.2.1) h5
  have h3 : PEq T L A kv ((G_X4_readBrackets (d + 3)).2.1 (nI 3)) ((G_X10_both (d' + 2)).2.2.2.1 (nI kv)) br nt := levS (F := (G_X4_readBrackets (d + 2)).2.1) (Fp := (G_X4_readBrackets (d + 2)).2.2.2) (G := (G_X10_both (d' + 1)).2.2.2.2.1) h4
  have h2 : PEq T L A kv ((G_X4_readBrackets (d + 4)).2.1 (nI 2)) ((G_X10_both (d' + 3)).2.2.2.2.2 (nI kv)) br nt := levT (F := (G_X4_readBrackets (d + 3)).2.1) (Fp := (G_X4_readBrackets (d + 3)).2.2.2) (G := (G_X10_both (d' + 2)).2.2.2.1) h3
  have h1 : PEq T L A kv ((G_X4_readBrackets (d + 5)).2.1 (nI 1)) ((G_X10_both (d' + 4)).1 (nI kv)) br nt := levB (F := (G_X4_readBrackets (d + 4)).2.1) (Fp := (G_X4_readBrackets (d + 4)).2.2.2) (G := (G_X10_both (d' + 3)).2.2.2.2.2) h2
  exact levE (F := (G_X4_readBrackets (d + 5)).2.1) (Fp := (G_X4_readBrackets (d + 5)).2.2.2) (G := (G_X10_both (d' + 4)).1) h1
theorem pieces {T : Row} {L A kv : Nat} (hkv : kv < 9) : ∀ (r br nt : Nat), 8 * (8 - br) + (8 - nt) ≤ r → br ≤ 8 → nt ≤ 8 → ∀ d d', 8 * (8 - br) + 2 * (8 - nt) + 2 ≤ d → 6 * (8 - br) + (8 - nt) + 1 ≤ d' → PEq T L A kv (G_X4_readBrackets d).2.2.2 ((G_X10_both d').2.2.1 (nI kv)) br nt := by
  intro r
  induction r with
  | zero =>
    intro br nt hr hb hn d d' hd hd'
    obtain ⟨d, rfl⟩ : ∃ x, d = x + 2 := ⟨d - 2, by omega⟩
    obtain ⟨d', rfl⟩ : ∃ x, d' = x + 1 := ⟨d' - 1, by omega⟩
    exact piece_eq hkv (fun z => by omega) (fun z => by omega)
  | succ r ih =>
    intro br nt hr hb hn d d' hd hd'
    obtain ⟨d, rfl⟩ : ∃ x, d = x + 2 := ⟨d - 2, by omega⟩
    obtain ⟨d', rfl⟩ : ∃ x, d' = x + 1 := ⟨d' - 1, by omega⟩
    refine piece_eq hkv (fun z => ?_) (fun z => ?_)
    · exact ih br (nt + 1) (by omega) hb (by omega) d d' (by omega) (by omega)
    · exact level0 (ih (br + 1) nt (by omega) (by omega) hn) (by omega) (by omega)
theorem expr_eq {T : Row} {L A kv : Nat} (hkv : kv < 9) : PEq T L A kv (f_X4_readLevel FR 0) (f_X10_either FR (nI kv)) 0 0 := level0 (pieces hkv 72 0 0 (by omega) (by omega) (by omega)) (by unfold FR; omega) (by unfold FR; omega)
