/-! READING: pieces, and all of an expression -/
theorem lvl0 (c : Int32) : lvl c = nI 0 ↔ c = 124 := by
  refine ⟨fun h => ?_, fun h => by rw [h]; decide⟩
  unfold lvl at h
  repeat' split at h
  all_goals first | assumption | exact absurd h (by decide)
theorem lvl1 (c : Int32) : lvl c = nI 1 ↔ c = 38 := by
  refine ⟨fun h => ?_, fun h => by rw [h]; decide⟩
  unfold lvl at h
  repeat' split at h
  all_goals first | assumption | exact absurd h (by decide)
theorem lvl2 (c : Int32) : lvl c = nI 2 ↔ (c = 60 ∨ c = 61 ∨ c = 62) := by
  refine ⟨fun h => ?_, fun h => by rcases h with h | h | h <;> rw [h] <;> decide⟩
  unfold lvl at h
  repeat' split at h
  all_goals first | (left; assumption) | (right; left; assumption) | (right; right; assumption) | exact absurd h (by decide)
theorem lvl3 (c : Int32) : lvl c = nI 3 ↔ (c = 43 ∨ c = 45) := by
  refine ⟨fun h => ?_, fun h => by rcases h with h | h <;> rw [h] <;> decide⟩
  unfold lvl at h
  repeat' split at h
  all_goals first | (left; assumption) | (right; assumption) | exact absurd h (by decide)
theorem lvl4 (c : Int32) : lvl c = nI 4 ↔ (c = 42 ∨ c = 47) := by
  refine ⟨fun h => ?_, fun h => by rcases h with h | h <;> rw [h] <;> decide⟩
  unfold lvl at h
  repeat' split at h
  all_goals first | (left; assumption) | (right; assumption) | exact absurd h (by decide)
theorem sgY {N : Mem} {c : Int32} (h : N 0 16 = 3) (q : N 0 18 = c) : ¬ b2i (N 0 16 = 3 ∧ N 0 18 = c) = 0 := by
  rw [b2i_eq0]
  exact nn ⟨h, q⟩
theorem sgN {N : Mem} {c : Int32} (q : ¬ (N 0 16 = 3 ∧ N 0 18 = c)) : b2i (N 0 16 = 3 ∧ N 0 18 = c) = 0 := by
  rw [b2i_eq0]
  exact q
theorem levE {T : Row} {L A kv br nt : Nat} {F : Int32 → Mem → Option (Int32 × Mem)} {Fp : Mem → Option (Int32 × Mem)} {G : Int32 → Mem → Option (Int32 × Mem)} (H : PEq T L A kv (F (nI 1)) (G (nI kv)) br nt) : PEq T L A kv (f_X4_readLevel_b0 F Fp (nI 0)) (f_X10_either_b0 G (nI kv)) br nt := by
  refine lev_eq (k := 0) (mx := 96) (G := G) (K := f_X10_either_b10 G) (sg := fun c => c = 124) (by omega) (Or.inr ⟨by omega, rfl⟩) H lvl0 (fun c h => by rw [h]; decide) (fun f N _ h3 hs => ?_) (fun f N hn => ?_) (fun z => by omega) (fun N => by rw [f_X10_either_b0, if_neg (show ¬ (96 : Nat) = 1 by decide)])
  · have hs : N 0 18 = 124 := hs
    rw [f_X10_either_b10, isSign_eq, bsm]
    dsimp only
    rw [if_neg (sgY h3 hs), hs]
  · rw [f_X10_either_b10, isSign_eq, bsm]
    dsimp only
    rw [if_pos (sgN hn)]
theorem levB {T : Row} {L A kv br nt : Nat} {F : Int32 → Mem → Option (Int32 × Mem)} {Fp : Mem → Option (Int32 × Mem)} {G : Int32 → Mem → Option (Int32 × Mem)} (H : PEq T L A kv (F (nI 2)) (G (nI kv)) br nt) : PEq T L A kv (f_X4_readLevel_b0 F Fp (nI 1)) (f_X10_both_b0 G (nI kv)) br nt := by
  refine lev_eq (k := 1) (mx := 96) (G := G) (K := f_X10_both_b10 G) (sg := fun c => c = 38) (by omega) (Or.inr ⟨by omega, rfl⟩) H lvl1 (fun c h => by rw [h]; decide) (fun f N _ h3 hs => ?_) (fun f N hn => ?_) (fun z => by omega) (fun N => by rw [f_X10_both_b0, if_neg (show ¬ (96 : Nat) = 1 by decide)])
  · have hs : N 0 18 = 38 := hs
    rw [f_X10_both_b10, isSign_eq, bsm]
    dsimp only
    rw [if_neg (sgY h3 hs), hs]
  · rw [f_X10_both_b10, isSign_eq, bsm]
    dsimp only
    rw [if_pos (sgN hn)]
def tstK (G : Int32 → Mem → Option (Int32 × Mem)) : Nat → Int32 → Mem → Option (Int32 × Mem)
  | 0, _, N => some (1, N)
  | _ + 1, x1, N => (f_X10_isSign (60 : Int32) N).bind fun q2 => if q2.1 = 0 then (f_X10_isSign (61 : Int32) q2.2).bind fun q3 => if q3.1 = 0 then (f_X10_isSign (62 : Int32) q3.2).bind fun q4 => if q4.1 = 0 then some ((1 : Int32), q4.2) else f_X10_test_b37 G x1 q4.2 else f_X10_test_b37 G x1 q3.2 else f_X10_test_b37 G x1 q2.2
theorem levT {T : Row} {L A kv br nt : Nat} {F : Int32 → Mem → Option (Int32 × Mem)} {Fp : Mem → Option (Int32 × Mem)} {G : Int32 → Mem → Option (Int32 × Mem)} (H : PEq T L A kv (F (nI 3)) (G (nI kv)) br nt) : PEq T L A kv (f_X4_readLevel_b0 F Fp (nI 2)) (f_X10_test_b0 G (nI kv)) br nt := by
  refine lev_eq (k := 2) (mx := 1) (G := G) (K := tstK G) (sg := fun c => c = 60 ∨ c = 61 ∨ c = 62) (by omega) (Or.inl ⟨rfl, rfl⟩) H lvl2 (fun c h => by rcases h with h | h | h <;> rw [h] <;> decide) (fun f N hf h3 hs => ?_) (fun f N hn => ?_) (fun _ N => rfl) (fun N => by rw [f_X10_test_b0, if_pos rfl]; rfl)
  · have hf : f = 0 := hf rfl
    subst hf
    have b37 : f_X10_test_b37 G (nI kv) N = (f_X10_goesOn N).bind fun q => (G (nI kv) q.2).bind fun q2 => if q2.1 = 0 then some (0, q2.2) else (f_X10_step 2 (N 0 18) q2.2).bind fun q3 => tstK G 0 (nI kv) q3.2 := rfl
    rw [tstK, isSign_eq, bsm]
    dsimp only
    by_cases q1 : N 0 18 = 60
    · rw [if_neg (sgY h3 q1), b37]
    rw [if_pos (sgN (fun z => q1 z.2)), isSign_eq, bsm]
    dsimp only
    by_cases q2 : N 0 18 = 61
    · rw [if_neg (sgY h3 q2), b37]
    have q3 : N 0 18 = 62 := by
      rcases hs with h | h | h
      · exact absurd h q1
      · exact absurd h q2
      · exact h
    rw [if_pos (sgN (fun z => q2 z.2)), isSign_eq, bsm]
    dsimp only
    rw [if_neg (sgY h3 q3), b37]
  · rw [tstK, isSign_eq, bsm]
    dsimp only
    rw [if_pos (sgN (fun z => hn ⟨z.1, Or.inl z.2⟩)), isSign_eq, bsm]
    dsimp only
    rw [if_pos (sgN (fun z => hn ⟨z.1, Or.inr (Or.inl z.2)⟩)), isSign_eq, bsm]
    dsimp only
    rw [if_pos (sgN (fun z => hn ⟨z.1, Or.inr (Or.inr z.2)⟩))]
theorem levS {T : Row} {L A kv br nt : Nat} {F : Int32 → Mem → Option (Int32 × Mem)} {Fp : Mem → Option (Int32 × Mem)} {G : Int32 → Mem → Option (Int32 × Mem)} (H : PEq T L A kv (F (nI 4)) (G (nI kv)) br nt) : PEq T L A kv (f_X4_readLevel_b0 F Fp (nI 3)) (f_X10_sum_b0 G (nI kv)) br nt := by
  refine lev_eq (k := 3) (mx := 96) (G := G) (K := f_X10_sum_b10 G) (sg := fun c => c = 43 ∨ c = 45) (by omega) (Or.inr ⟨by omega, rfl⟩) H lvl3 (fun c h => by rcases h with h | h <;> rw [h] <;> decide) (fun f N _ h3 hs => ?_) (fun f N hn => ?_) (fun z => by omega) (fun N => by rw [f_X10_sum_b0, if_neg (show ¬ (96 : Nat) = 1 by decide)])
  · rw [f_X10_sum_b10, isSign_eq, bsm]
    dsimp only
    by_cases q1 : N 0 18 = 43
    · rw [if_neg (sgY h3 q1), f_X10_sum_b28]
    have q3 : N 0 18 = 45 := by
      rcases hs with h | h
      · exact absurd h q1
      · exact h
    rw [if_pos (sgN (fun z => q1 z.2)), isSign_eq, bsm]
    dsimp only
    rw [if_neg (sgY h3 q3), f_X10_sum_b28]
  · rw [f_X10_sum_b10, isSign_eq, bsm]
    dsimp only
    rw [if_pos (sgN (fun z => hn ⟨z.1, Or.inl z.2⟩)), isSign_eq, bsm]
    dsimp only
    rw [if_pos (sgN (fun z => hn ⟨z.1, Or.inr z.2⟩))]
theorem levM {T : Row} {L A kv br nt : Nat} {F : Int32 → Mem → Option (Int32 × Mem)} {Fp : Mem → Option (Int32 × Mem)} {G : Int32 → Mem → Option (Int32 × Mem)} (H : PEq T L A kv (F (nI 5)) (G (nI kv)) br nt) : PEq T L A kv (f_X4_readLevel_b0 F Fp (nI 4)) (f_X10_term_b0 G (nI kv)) br nt := by
  refine lev_eq (k := 4) (mx := 96) (G := G) (K := f_X10_term_b10 G) (sg := fun c => c = 42 ∨ c = 47) (by omega) (Or.inr ⟨by omega, rfl⟩) H lvl4 (fun c h => by rcases h with h | h <;> rw [h] <;> decide) (fun f N _ h3 hs => ?_) (fun f N hn => ?_) (fun z => by omega) (fun N => by rw [f_X10_term_b0, if_neg (show ¬ (96 : Nat) = 1 by decide)])
  · rw [f_X10_term_b10, isSign_eq, bsm]
    dsimp only
    by_cases q1 : N 0 18 = 42
    · rw [if_neg (sgY h3 q1), f_X10_term_b28]
    have q3 : N 0 18 = 47 := by
      rcases hs with h | h
      · exact absurd h q1
      · exact h
    rw [if_pos (sgN (fun z => q1 z.2)), isSign_eq, bsm]
    dsimp only
    rw [if_neg (sgY h3 q3), f_X10_term_b28]
  · rw [f_X10_term_b10, isSign_eq, bsm]
    dsimp only
    rw [if_pos (sgN (fun z => hn ⟨z.1, Or.inl z.2⟩)), isSign_eq, bsm]
    dsimp only
    rw [if_pos (sgN (fun z => hn ⟨z.1, Or.inr z.2⟩))]
theorem levP {T : Row} {L A kv br nt : Nat} {F : Int32 → Mem → Option (Int32 × Mem)} {Fp : Mem → Option (Int32 × Mem)} {G : Mem → Option (Int32 × Mem)} (H : PEq T L A kv Fp G br nt) : PEq T L A kv (f_X4_readLevel_b0 F Fp (nI 5)) G br nt := by
  intro b e l h M N p
  have e0 : f_X4_readLevel_b0 F Fp (nI 5) M = (Fp M).bind fun q2 => if z01 q2.1 = true then some (q2.1, q2.2) else none := by
    rw [f_X4_readLevel_b0, if_neg (show ¬ nI 5 < (5 : Int32) by decide)]
  rcases H b e l h M N p with ⟨M1, N1, b1, e1, l1, x1, x2, x3, x4, p1, fc1, fm1⟩ | ⟨M1, N1, x1, x2, p1⟩
  · rw [e0, x1, x2, bsm]
    exact Or.inl ⟨M1, N1, b1, e1, l1, rfl, rfl, x3, x4, p1, fc1, fm1⟩
  · rw [e0, x1, x2, bsm]
    exact Or.inr ⟨M1, N1, rfl, rfl, p1⟩
/-- one more NUMBER or NAME -/
theorem leaf_eq {T : Row} {L A kv b e l h br nt : Nat} {M N : Mem} (p : Ps T L A kv b e l h br nt M N) (hbe : b < e) {w v x : Int32} (hx : x = codeOf w v) (s : stepOk w v h (h + 1)) (ra rb : Mem → Option (Int32 × Mem)) : Rd T L A kv b l (h + 1) br nt M N ((f_X4_emit x M).bind fun q => f_X4_readPiece_b119 ra rb q.2) ((f_X10_step w v N).bind fun q => (f_X10_goesOn (mset q.2 0 23 ((q.2 0 23) + (1 : Int32)))).bind fun q5 => some ((1 : Int32), q5.2)) 1 := by
  have hp := p.2.1
  have hL := p.1.1.1
  obtain ⟨M1, N1, a1, a2, a3, a4, a5, a6, a7⟩ := p.1.put (by omega) hx s
  have P1 : Pr T L A kv (l + 1) (h + 1) br nt (mset M1 1 8 (M1 1 8 + 1)) (mset N1 0 23 (N1 0 23 + 1)) := by
    obtain ⟨hT, p1, p2, p3, p4, p5, p6⟩ := a3
    refine ⟨hT.cg (by rw [mset_k (by omega)]) (mset_ne (by omega)) (by rw [mset_k (by omega)]) (mset_ne (by omega)), p1, ?_, ?_, ?_, ?_, p6.cg (mset_ne (by omega)) (mset_ne (by omega))⟩
    · rw [mset_k (by omega), mset_k (by omega), mset_k (by omega)]; exact p2
    · rw [mset_k (by omega), mset_k (by omega), mset_k (by omega), mset_k (by omega)]; exact p3
    · rw [mset_at, mset_at, p4]
    · rw [mset_k (by omega)]; exact p5
  have B1 : Bf e (mset M1 1 8 (M1 1 8 + 1)) (mset N1 0 23 (N1 0 23 + 1)) := by
    have := p.2.2.2.bf p.2.2.1.2.2.1 p.2.2.1.2.2.2
    unfold Bf at this ⊢
    rw [mset_k (by omega), mset_k (by omega), mset_k (by omega), mset_k (by omega), a6 3 (by omega), a6 4 (by omega), a7 15 (by omega), a7 16 (by omega)]
    exact this
  obtain ⟨M2, N2, b2, e2, c1, c2, c3, c4, c5, c6⟩ := adv P1 hp.2.1 (by omega) B1
  rw [a1, a2, bsm, bsm]
  dsimp only
  rw [f_X4_readPiece_b119, c1, c2, bsm, bsm]
  refine Or.inl ⟨M2, N2, b2, e2, l + 1, rfl, rfl, by omega, by omega, c4, a4.tr (Fc.tr ⟨fun x x1 x3 => mset_ne x1, by rw [mset_k (by omega)], by rw [mset_k (by omega)], by rw [mset_k (by omega)]⟩ c5), a5.tr (Fm.tr ⟨fun x x0 x1 => mset_ne x0, fun k hk => by rw [mset_k (by omega)], fun j _ => by rw [mset_ne (by omega)]⟩ c6)⟩
theorem b84_no {GE GP : Int32 → Mem → Option (Int32 × Mem)} {N : Mem} (x : Int32) (h : ¬ (N 0 16 = 3 ∧ N 0 18 = 33)) (h' : ¬ (N 0 16 = 3 ∧ N 0 18 = 40)) : f_X10_part0_b84 GE GP x N = some (0, N) := by
  rw [f_X10_part0_b84, isSign_eq, bsm]
  dsimp only
  rw [if_pos (sgN h), f_X10_part0_b145, isSign_eq, bsm]
  dsimp only
  rw [if_pos (sgN h')]
theorem isName_eq {kv : Nat} (hkv : kv < 9) (c : Int32) (N : Mem) : f_X10_isName (nI kv) c N = some (b2i (c = 100 ∨ c = 97 ∨ (c = 111 ∧ kv / 3 = 1)), N) := by
  unfold f_X10_isName f_X10_isName_b0 f_X10_isName_b25 b2i
  have e3 : nI kv / (3 : Int32) = nI (kv / 3) := pk_div (d := 3) (by omega) (by omega) (by omega)
  rw [e3]
  by_cases q1 : c = 100
  · rw [if_pos q1, if_pos (Or.inl q1)]
  rw [if_neg q1]
  by_cases q2 : c = 97
  · rw [if_pos q2, if_pos (Or.inr (Or.inl q2))]
  rw [if_neg q2]
  by_cases q3 : c = 111
  · rw [if_pos q3]
    by_cases q4 : kv / 3 = 1
    · rw [if_pos (show nI (kv / 3) = (1 : Int32) by rw [q4]; rfl), if_pos (Or.inr (Or.inr ⟨q3, q4⟩))]
    · rw [if_neg (show ¬ nI (kv / 3) = (1 : Int32) from nI_ne (b := 1) (by omega) (by omega) q4), if_neg]
      rintro (z | z | z)
      · exact q1 z
      · exact q2 z
      · exact q4 z.2
  · rw [if_neg q3, if_neg]
    rintro (z | z | z)
    · exact q1 z
    · exact q2 z
    · exact q3 z.1
