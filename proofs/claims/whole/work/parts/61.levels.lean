/-! READING: levels -/
theorem Ps.tp {T : Row} {L A kv b e l h br nt : Nat} {M N : Mem} (p : Ps T L A kv b e l h br nt M N) : b ≤ 96 ∧ l ≤ 96 := by
  have := p.1.1.1
  have := p.2.1
  omega
/-- a sign is laid behind its parts; the word at hand stays -/
theorem Ps.op {T : Row} {L A kv b e l h h' br nt : Nat} {M N : Mem} (p : Ps T L A kv b e l h br nt M N) (hl : l < b) {w v x : Int32} (hx : x = codeOf w v) (s : stepOk w v h h') : ∃ M' N', f_X4_emit x M = some (0, M') ∧ f_X10_step w v N = some (0, N') ∧ Ps T L A kv b e (l + 1) h' br nt M' N' ∧ Fc M M' ∧ Fm A N N' := by
  have := p.tp
  obtain ⟨M', N', a1, a2, a3, a4, a5, a6, a7⟩ := p.1.put (by omega) hx s
  refine ⟨M', N', a1, a2, ⟨a3, ⟨p.2.1.1, p.2.1.2.1, by omega⟩, ?_, ?_⟩, a4, a5⟩
  · rw [a6 2 (by omega), a6 3 (by omega), a7 14 (by omega), a7 15 (by omega)]; exact p.2.2.1
  · exact p.2.2.2.cg (a6 4 (by omega)) (a6 5 (by omega)) (a7 16 (by omega)) (a7 17 (by omega)) (a7 18 (by omega))
def lvl (c : Int32) : Int32 := if c = 38 then 1 else if c = 42 then 4 else if c = 43 then 3 else if c = 45 then 3 else if c = 47 then 4 else if c = 60 then 2 else if c = 61 then 2 else if c = 62 then 2 else if c = 124 then 0 else (-1000000005 : Int32)
theorem levelOf_eq (c : Int32) (M : Mem) : f_X4_levelOf c M = some (lvl c, M) := by
  unfold f_X4_levelOf f_X4_levelOf_b0 lvl
  repeat' split
  all_goals first | rfl | contradiction
abbrev bin (c : Int32) : Prop := c = 38 ∨ c = 42 ∨ c = 43 ∨ c = 45 ∨ c = 47 ∨ c = 60 ∨ c = 61 ∨ c = 62 ∨ c = 124
theorem lev_eq {T : Row} {L A kv br nt k mx : Nat} {F : Int32 → Mem → Option (Int32 × Mem)} {Fp : Mem → Option (Int32 × Mem)} {G : Int32 → Mem → Option (Int32 × Mem)} {K : Nat → Int32 → Mem → Option (Int32 × Mem)} {sg : Int32 → Prop} (hk : k < 5) (hmx : (k = 2 ∧ mx = 1) ∨ (k ≠ 2 ∧ mx = 96)) (H : PEq T L A kv (F (nI (k + 1))) (G (nI kv)) br nt) (hsg : ∀ c, lvl c = nI k ↔ sg c) (hbin : ∀ c, sg c → bin c) (h1 : ∀ f N, (mx = 1 → f = 0) → N 0 16 = 3 → sg (N 0 18) → K (f + 1) (nI kv) N = (f_X10_goesOn N).bind fun q => (G (nI kv) q.2).bind fun q2 => if q2.1 = 0 then some (0, q2.2) else (f_X10_step 2 (N 0 18) q2.2).bind fun q3 => K f (nI kv) q3.2) (h2 : ∀ f N, ¬ (N 0 16 = 3 ∧ sg (N 0 18)) → K (f + 1) (nI kv) N = some (1, N)) (h0 : mx = 1 → ∀ N, K 0 (nI kv) N = some (1, N)) {Gk : Mem → Option (Int32 × Mem)} (hG : ∀ N, Gk N = (G (nI kv) N).bind fun q1 => if q1.1 = 0 then some (0, q1.2) else K (if mx = 1 then 1 else FU) (nI kv) q1.2) : PEq T L A kv (f_X4_readLevel_b0 F Fp (nI k)) Gk br nt := by
  have hmx96 : mx = 1 ∨ mx = 96 := by omega
  have failC : ∀ (f i : Nat) (M : Mem), f_X4_readLevel_b33 F Fp (f + 1) (nI k) 0 (nI mx) (nI i) M = some (0, M) := by
    intro f i M
    rw [f_X4_readLevel_b33, if_pos rfl, if_pos z01_0]
    split <;> rfl
  have loop : ∀ (r i fm fuel b e l h : Nat) (M N : Mem), i + r = mx → r < fuel → ((mx = 1 ∧ fm + i = 1) ∨ (mx = 96 ∧ 96 < fm + i ∧ i ≤ b)) → Ps T L A kv b e l (h + 1) br nt M N → Rd T L A kv b l (h + 1) br nt M N (f_X4_readLevel_b33 F Fp fuel (nI k) 1 (nI mx) (nI i) M) (K fm (nI kv) N) 0 := by
    intro r
    induction r with
    | zero =>
      intro i fm fuel b e l h M N hi hf hfm p
      obtain ⟨f, rfl⟩ : ∃ f, fuel = f + 1 := ⟨fuel - 1, by omega⟩
      have hpt := p.tp
      have him : i = mx := by omega
      have eC : f_X4_readLevel_b33 F Fp (f + 1) (nI k) 1 (nI mx) (nI i) M = some (1, M) := by
        rw [f_X4_readLevel_b33, if_pos (nI_le (by omega) (by omega)), if_pos z01_1]
      have eM : K fm (nI kv) N = some (1, N) := by
        rcases hfm with ⟨a, c⟩ | ⟨a, c, d⟩
        · rw [show fm = 0 by omega]
          exact h0 a N
        · obtain ⟨fm', rfl⟩ : ∃ x, fm = x + 1 := ⟨fm - 1, by omega⟩
          refine h2 fm' N ?_
          rintro ⟨z, -⟩
          have hbe := p.2.1
          have hL := p.1.1.1
          rcases p.2.2.2 with t | t | t | t | t
          · rw [t.2] at z; exact absurd z (by decide)
          · rw [t.2.2.1] at z; exact absurd z (by decide)
          · rw [t.2.2.1] at z; exact absurd z (by decide)
          · omega
          · rw [t.2] at z; exact absurd z (by decide)
      exact Or.inl ⟨M, N, b, e, l, eC, eM, by omega, by omega, p, Fc.rf M, Fm.rf A N⟩
    | succ r ih =>
      intro i fm fuel b e l h M N hi hf hfm p
      obtain ⟨f, rfl⟩ : ∃ f, fuel = f + 1 := ⟨fuel - 1, by omega⟩
      obtain ⟨fm, rfl⟩ : ∃ x, fm = x + 1 := ⟨fm - 1, by omega⟩
      have hpt := p.tp
      have hbe := p.2.1
      have hL := p.1.1.1
      have c0 : ¬ nI mx ≤ nI i := nI_ge (by omega) (by omega)
      have no : ¬ (N 0 16 = 3 ∧ sg (N 0 18)) → f_X4_readLevel_b33 F Fp (f + 1) (nI k) 1 (nI mx) (nI i) M = some (1, M) → Rd T L A kv b l (h + 1) br nt M N (f_X4_readLevel_b33 F Fp (f + 1) (nI k) 1 (nI mx) (nI i) M) (K (fm + 1) (nI kv) N) 0 := fun z eC => Or.inl ⟨M, N, b, e, l, eC, h2 fm N z, by omega, by omega, p, Fc.rf M, Fm.rf A N⟩
      have ns : M 1 4 ≠ 3 → f_X4_readLevel_b33 F Fp (f + 1) (nI k) 1 (nI mx) (nI i) M = some (1, M) := fun z => by
        rw [f_X4_readLevel_b33, if_neg c0, if_neg (by decide), if_neg z, if_pos z01_1]
      rcases p.2.2.2 with t | t | t | t | t
      · exact no (fun z => by rw [t.2] at z; exact absurd z.1 (by decide)) (ns (by rw [t.1]; decide))
      · exact no (fun z => by rw [t.2.2.1] at z; exact absurd z.1 (by decide)) (ns (by rw [t.2.1]; decide))
      · exact no (fun z => by rw [t.2.2.1] at z; exact absurd z.1 (by decide)) (ns (by rw [t.2.1]; decide))
      · obtain ⟨tbe, t4, t16, t5, t18⟩ := t
        by_cases q : sg (T b)
        · have hq : lvl (T b) = nI k := (hsg _).mpr q
          have hb := hbin _ q
          have eC0 : f_X4_readLevel_b33 F Fp (f + 1) (nI k) 1 (nI mx) (nI i) M = (f_X4_step M).bind fun q6 => (F (nI (k + 1)) q6.2).bind fun q7 => (f_X4_emit (-(T b)) q7.2).bind fun q8 => f_X4_readLevel_b33 F Fp f (nI k) q7.1 (nI mx) (nI (i + 1)) q8.2 := by
            rw [f_X4_readLevel_b33, if_neg c0, if_neg (by decide), if_pos t4, t5, levelOf_eq, bsm]
            simp only [hq, if_true, t5, nI_1]
          have eM0 := h1 fm N (fun z => by omega) t16 (by rw [t18]; exact q)
          rw [t18] at eM0
          rw [eC0, eM0]
          obtain ⟨M1, N1, b1, e1, a1, a2, a3, p1, fc1, fm1⟩ := adv p.1 hbe.2.1 (by omega) (p.2.2.2.bf p.2.2.1.2.2.1 p.2.2.1.2.2.2)
          rw [a1, a2, bsm, bsm]
          dsimp only
          rcases H b1 e1 l (h + 1) M1 N1 p1 with ⟨M2, N2, b2, e2, l2, x1, x2, x3, x4, p2, fc2, fm2⟩ | ⟨M2, N2, x1, x2, p2⟩
          · have hp2 := p2.2.1
            obtain ⟨M3, N3, y1, y2, p3, fc3, fm3⟩ := p2.op (by omega) (w := 2) (v := T b) (x := -(T b)) (h' := h + 1) (by unfold codeOf; rw [if_neg (by decide)]) (Or.inr (Or.inr (Or.inr ⟨rfl, hb, by omega, by omega⟩)))
            rw [x1, x2, bsm, bsm]
            dsimp only
            rw [if_neg (by decide), y1, y2, bsm, bsm]
            dsimp only
            rcases ih (i + 1) fm f b2 e2 (l2 + 1) h M3 N3 (by omega) (by omega) (by omega) p3 with ⟨M4, N4, b4, e4, l4, z1, z2, z3, z4, p4, fc4, fm4⟩ | ⟨M4, N4, z1, z2, p4⟩
            · exact Or.inl ⟨M4, N4, b4, e4, l4, z1, z2, by omega, by omega, p4, fc1.tr (fc2.tr (fc3.tr fc4)), fm1.tr (fm2.tr (fm3.tr fm4))⟩
            · exact Or.inr ⟨M4, N4, z1, z2, p4.1, p4.2.1, fc1.tr (fc2.tr (fc3.tr p4.2.2.1)), fm1.tr (fm2.tr (fm3.tr p4.2.2.2))⟩
          · obtain ⟨M3, y1, y2, y3, fc3⟩ := emitF p2.2.1 (-(T b))
            rw [x1, x2, bsm, bsm]
            dsimp only
            rw [if_pos rfl, y1, bsm]
            dsimp only
            obtain ⟨f', rfl⟩ : ∃ x, f = x + 1 := ⟨f - 1, by omega⟩
            rw [failC]
            exact Or.inr ⟨M3, N2, rfl, rfl, by rw [y2]; exact p2.1, y3, fc1.tr (p2.2.2.1.tr fc3), fm1.tr p2.2.2.2⟩
        · refine no (fun z => q (by rw [← t18]; exact z.2)) ?_
          rw [f_X4_readLevel_b33, if_neg c0, if_neg (by decide), if_pos t4, t5, levelOf_eq, bsm]
          dsimp only
          rw [if_neg (fun z => q ((hsg _).mp z)), if_pos z01_1]
      · exact no (fun z => by rw [t.2] at z; exact absurd z.1 (by decide)) (ns (by rw [t.1]; decide))
  intro b e l h M N p
  have hpt := p.tp
  have e0 : f_X4_readLevel_b0 F Fp (nI k) M = (F (nI (k + 1)) M).bind fun q1 => f_X4_readLevel_b33 F Fp FU (nI k) q1.1 (nI mx) 0 q1.2 := by
    rw [f_X4_readLevel_b0, if_pos (show nI k < (5 : Int32) from nI_lt (b := 5) hk (by omega)), nI_1]
    congr 1
    funext q1
    rcases hmx with ⟨z1, z2⟩ | ⟨z1, z2⟩
    · rw [if_pos (show nI k = (2 : Int32) by rw [z1]; rfl), z2]
      rfl
    · rw [if_neg (show ¬ nI k = (2 : Int32) from nI_ne (b := 2) (by omega) (by omega) z1), z2]
      rfl
  rw [e0, hG N]
  rcases H b e l h M N p with ⟨M1, N1, b1, e1, l1, x1, x2, x3, x4, p1, fc1, fm1⟩ | ⟨M1, N1, x1, x2, p1⟩
  · rw [x1, x2, bsm, bsm]
    dsimp only
    rw [if_neg (show ¬ (1 : Int32) = 0 by decide)]
    have hp1 := p1.2.1
    rcases loop mx 0 (if mx = 1 then 1 else FU) FU b1 e1 l1 h M1 N1 (by omega) (by unfold FU; omega) (by
      rcases hmx96 with z | z
      · exact Or.inl ⟨z, by rw [if_pos z]⟩
      · exact Or.inr ⟨z, by rw [if_neg (by omega)]; unfold FU; omega, by omega⟩) p1 with ⟨M4, N4, b4, e4, l4, z1, z2, z3, z4, p4, fc4, fm4⟩ | ⟨M4, N4, z1, z2, p4⟩
    · exact Or.inl ⟨M4, N4, b4, e4, l4, z1, z2, by omega, by omega, p4, fc1.tr fc4, fm1.tr fm4⟩
    · exact Or.inr ⟨M4, N4, z1, z2, p4.1, p4.2.1, fc1.tr p4.2.2.1, fm1.tr p4.2.2.2⟩
  · rw [x1, x2, bsm, bsm]
    dsimp only
    rw [if_pos rfl]
    exact Or.inr ⟨M1, N1, failC 3999 0 M1, rfl, p1⟩
