/-! WHAT A MARK SAYS -/
/-- the model's row is in order: marks, texts, clocks -/
def SV (S : Row) (n t : Nat) : Prop := S 0 = nI n ∧ n ≤ 24 ∧ (∀ i, i < n → MkOk S i) ∧ S 1 = nI t ∧ t ≤ 14 ∧ (∀ j, j < t → TxOk S j)
/-- the class's coast shows that row -/
def RV (M : Mem) (S : Row) (co n t : Nat) : Prop := (co = 48 ∨ co = 80) ∧ M co 9 = nI n ∧ RMarks (fun i => M (co + 8 + i)) S n ∧ M co 10 = nI t ∧ RTexts (fun j => M (19 + 2 * j)) (fun j => M (20 + 2 * j)) S t ∧ RSet (M (co + 5)) (M (co + 6)) S
theorem RV.sv {M : Mem} {S : Row} {co n t : Nat} (h : RV M S co n t) : SV S n t := ⟨h.2.2.1.2.1, h.2.2.1.1, fun i hi => (h.2.2.1.2.2 i hi).1, h.2.2.2.2.1.2.1, h.2.2.2.2.1.1, fun j hj => (h.2.2.2.2.1.2.2 j hj).1⟩
theorem RV.cg {M M' : Mem} {S : Row} {co n t : Nat} (h : RV M S co n t) (e : SC M M') : RV M' S co n t := by
  obtain ⟨h0, h1, h2, h3, h4, h5⟩ := h
  have hc : ∀ x, 18 ≤ x → x ≠ 47 → M' x = M x := fun x a b => e x (by omega)
  have hn := h2.1
  have htt := h4.1
  have h0' : co = 48 ∨ co = 80 := h0
  refine ⟨h0, by rw [hc co (by omega) (by omega)]; exact h1, h2.cg (fun i hi => hc _ (by omega) (by omega)), by rw [hc co (by omega) (by omega)]; exact h3, h4.cg (fun j hj => ⟨hc _ (by omega) (by omega), hc _ (by omega) (by omega)⟩), ?_⟩
  rw [hc (co + 5) (by omega) (by omega), hc (co + 6) (by omega) (by omega)]
  exact h5
theorem RV.of {M : Mem} {S : Row} {co : Nat} (hco : co = 48 ∨ co = 80) (h : RCo M S co) : ∃ n t, RV M S co n t := by
  obtain ⟨⟨n, h1, h2, -⟩, ⟨t, h4, h5⟩, -, h8, -⟩ := h
  exact ⟨n, t, hco, h1, h2, h4, h5, h8⟩
theorem SC.of47 {M M' : Mem} (h : ∀ x, x ≠ 47 → M' x = M x) : SC M M' := fun x hx => h x (by omega)
theorem SM.of {N N' : Mem} (h : ∀ x, x ≠ 13 → x ≠ 14 → N' x = N x) : SM N N' := ⟨fun x hx => h x (by omega) (by omega), by rw [h 0 (by omega) (by omega)], by rw [h 0 (by omega) (by omega)], by rw [h 0 (by omega) (by omega)]⟩
def lawS (S : Row) (i key : Nat) (wo : Int32) : Int32 := match lastT S (nI (3 * key + vyOf S i)) (S 1).toInt.toNat with
  | none => wo
  | some j => pst S j (S (120 + 7 * i + 2)) (S (120 + 7 * i + 3)) (S (120 + 7 * i + 4)) (S (290 + 200 * j + 2)).toInt.toNat 0
theorem toN {n : Nat} (h : n < 2 ^ 31) : (nI n).toInt.toNat = n := by rw [nI_toInt h]; omega
theorem vy_nI {S : Row} {i : Nat} (h : MkOk S i) : S (120 + 7 * i + 1) = nI (vyOf S i) ∧ vyOf S i < 3 := by
  obtain ⟨k, hk, e⟩ := i_of (n := 3) h.2.1.1 (by have := h.2.1.2; omega)
  unfold vyOf
  rw [e, toN (by omega)]
  exact ⟨rfl, hk⟩
theorem lawFor_eq {M : Mem} {S : Row} {co n t i key : Nat} (h : RV M S co n t) (hi : i < n) (hk : key < 3) (wo : Int32) : ∃ M', f_X0_lawFor co (co + 8 + i) (nI key) wo M = some (lawS S i key wo, M') ∧ ∀ x, x ≠ 47 → M' x = M x := by
  have h' := h
  obtain ⟨h0, h1, h2, h3, h4, h5⟩ := h
  obtain ⟨ok, eq⟩ := h2.2.2 i hi
  obtain ⟨ev, hv⟩ := vy_nI ok
  obtain ⟨m0, m1, m2, m3, m4, -⟩ := eq
  have htt := h4.1
  have hn := h2.1
  have hrc := rf_co co h0
  unfold f_X0_lawFor f_X0_lawFor_b0
  rw [show M (co + 8 + i) 1 = nI (vyOf S i) from m1.trans ev, textFor_eq h0 h3 h4 hv hk]
  simp only [Option.bind_some]
  unfold lawS
  rw [h4.2.1, toN (by omega)]
  cases hl : lastT S (nI (3 * key + vyOf S i)) t with
  | none =>
    simp only [if_true]
    exact ⟨M, rfl, fun _ _ => rfl⟩
  | some j =>
    obtain ⟨hj, -⟩ := lastT_lt hl
    have hne : ¬ nI j = (-1000000005 : Int32) := by
      rw [i_eq, nI_toInt (by omega)]
      have : (-1000000005 : Int32).toInt = -1000000005 := by decide
      rw [this]
      omega
    simp only []
    rw [if_neg hne, if_pos (ixb_t (by omega) (by omega)), ix_nI (by omega), hrc.2.1, (rf_tx j (by omega)).1, hrc.2.2.1]
    obtain ⟨M', e, hM'⟩ := valueFor_eq (M := M) (S := S) (j := j) (mk := co + 8 + i) (by omega) (by omega) (h4.2.2 j hj).1 (h4.2.2 j hj).2
    rw [e]
    refine ⟨M', ?_, hM'⟩
    simp only [Option.bind_some]
    rw [show M (co + 8 + i) 2 = _ from m2, show M (co + 8 + i) 3 = _ from m3, show M (co + 8 + i) 4 = _ from m4]
theorem field_eq {i k : Nat} (hi : i < 24) (hk : k < 7) (N : Mem) : f_X10_field (nI i) (nI k) N = some (N 1 (120 + 7 * i + k), N) := by
  unfold f_X10_field f_X10_field_b0
  have e : (120 : Int32) + (7 : Int32) * nI i + nI k = nI (120 + 7 * i + k) := by rw [i_lit, i_lit, nI_mul, nI_add, nI_add]
  rw [e, if_pos (ixb_t (by omega) (by omega)), ix_nI (by omega)]
theorem fd0 {i : Nat} (hi : i < 24) (N : Mem) : f_X10_field (nI i) 0 N = some (N 1 (120 + 7 * i), N) := field_eq hi (k := 0) (by omega) N
theorem fd1 {i : Nat} (hi : i < 24) (N : Mem) : f_X10_field (nI i) 1 N = some (N 1 (120 + 7 * i + 1), N) := field_eq hi (k := 1) (by omega) N
theorem fd2 {i : Nat} (hi : i < 24) (N : Mem) : f_X10_field (nI i) 2 N = some (N 1 (120 + 7 * i + 2), N) := field_eq hi (k := 2) (by omega) N
theorem fd3 {i : Nat} (hi : i < 24) (N : Mem) : f_X10_field (nI i) 3 N = some (N 1 (120 + 7 * i + 3), N) := field_eq hi (k := 3) (by omega) N
theorem fd4 {i : Nat} (hi : i < 24) (N : Mem) : f_X10_field (nI i) 4 N = some (N 1 (120 + 7 * i + 4), N) := field_eq hi (k := 4) (by omega) N
theorem fd5 {i : Nat} (hi : i < 24) (N : Mem) : f_X10_field (nI i) 5 N = some (N 1 (120 + 7 * i + 5), N) := field_eq hi (k := 5) (by omega) N
theorem fd6 {i : Nat} (hi : i < 24) (N : Mem) : f_X10_field (nI i) 6 N = some (N 1 (120 + 7 * i + 6), N) := field_eq hi (k := 6) (by omega) N
theorem byLaw_eq {N : Mem} {n t i key : Nat} (h : SV (N 1) n t) (hi : i < n) (hk : key < 3) (wo : Int32) : ∃ N', f_X10_byLaw (nI i) (nI key) wo N = some (lawS (N 1) i key wo, N') ∧ ∀ x, x ≠ 13 → x ≠ 14 → N' x = N x := by
  obtain ⟨s0, hn, hm, s1, htt, htx⟩ := h
  have ok := hm i hi
  obtain ⟨ev, hv⟩ := vy_nI ok
  have h24 : i < 24 := by omega
  unfold f_X10_byLaw f_X10_byLaw_b0
  rw [fd1 h24]
  simp only [Option.bind_some]
  rw [ev, counts_eq s1 htt hv hk]
  simp only [Option.bind_some, fd2 h24, fd3 h24, fd4 h24]
  have f1 : ∀ (a b c : Int32), mset (mset (mset N 13 100 a) 13 97 b) 13 111 c 1 = N 1 := fun a b c => by rw [mset_ne (by omega), mset_ne (by omega), mset_ne (by omega)]
  have f2 : ∀ (a b : Int32), mset (mset N 13 100 a) 13 97 b 1 = N 1 := fun a b => by rw [mset_ne (by omega), mset_ne (by omega)]
  have f3 : ∀ (a : Int32), mset N 13 100 a 1 = N 1 := fun a => by rw [mset_ne (by omega)]
  rw [f3, f2]
  have fr : ∀ (a b c : Int32), ∀ x, x ≠ 13 → mset (mset (mset N 13 100 a) 13 97 b) 13 111 c x = N x := fun a b c x hx => by rw [mset_ne hx, mset_ne hx, mset_ne hx]
  unfold lawS
  rw [s1, toN (by omega)]
  cases hl : lastT (N 1) (nI (3 * key + vyOf (N 1) i)) t with
  | none =>
    simp only []
    rw [if_neg (by decide)]
    exact ⟨_, rfl, fun x a _ => fr _ _ _ x a⟩
  | some j =>
    obtain ⟨hj, -⟩ := lastT_lt hl
    simp only []
    rw [if_pos (nI_pos' (by omega))]
    obtain ⟨N', e, hN'⟩ := worked_eq (N := mset (mset (mset N 13 100 (N 1 (120 + 7 * i + 2))) 13 97 (N 1 (120 + 7 * i + 3))) 13 111 (N 1 (120 + 7 * i + 4))) (j := j) (dd := N 1 (120 + 7 * i + 2)) (aa := N 1 (120 + 7 * i + 3)) (oo := N 1 (120 + 7 * i + 4)) (by omega) (by rw [f1]; exact htx j hj) (by simp [mset]) (by simp [mset]) (by simp [mset])
    rw [f1] at e
    rw [e]
    exact ⟨N', rfl, fun x a b => (hN' x b).trans (fr _ _ _ x a)⟩
def hld (y : Int64) (lo hi : Int32) : Int32 := if y.toInt < lo.toInt then lo else if hi.toInt < y.toInt then hi else y.toInt32
theorem heldC_eq (y : Int64) {lo hi : Int32} (h : lo.toInt ≤ hi.toInt) (M : Mem) : f_X9_heldIn y lo hi M = some (hld y lo hi, M) := by
  unfold f_X9_heldIn f_X9_heldIn_b0 hld lmax lmin
  simp only [Int64.lt_iff_toInt_lt, l_of]
  by_cases h1 : y.toInt < hi.toInt
  · rw [if_pos h1]
    by_cases h2 : y.toInt < lo.toInt
    · rw [if_pos h2, if_pos h2, Int32.toInt32_toInt64]
    · rw [if_neg h2, if_neg h2, if_neg (by omega)]
  · rw [if_neg h1]
    simp only [l_of]
    rw [if_neg (by omega : ¬ hi.toInt < lo.toInt), if_neg (by omega : ¬ y.toInt < lo.toInt)]
    by_cases h2 : hi.toInt < y.toInt
    · rw [if_pos h2, Int32.toInt32_toInt64]
    · rw [if_neg h2]
      have : y = hi.toInt64 := Int64.toInt_inj.mp (by rw [l_of]; omega)
      rw [this]
theorem heldM_eq (y : Int64) (lo hi : Int32) (M : Mem) : f_X10_heldIn y lo hi M = some (hld y lo hi, M) := by
  unfold f_X10_heldIn f_X10_heldIn_b0 hld
  simp only [lg_ge0, lg_le0, l_of]
  by_cases h1 : y.toInt < lo.toInt
  · rw [if_neg (by omega), if_pos h1]
  · rw [if_pos (by omega), if_neg h1]
    by_cases h2 : hi.toInt < y.toInt
    · rw [if_neg (by omega), if_pos h2]
    · rw [if_pos (by omega), if_neg h2]
def logS (S : Row) (i : Nat) : Int32 := hld (lawS S i 0 100).toInt64 1 400
def needleS (S : Row) (i : Nat) : Int32 := hld (lawS S i 1 0).toInt64 (-200) 200
def byS (S : Row) (i : Nat) : Int32 := if S (10 + 3 * vyOf S i) = 1 ∧ ¬ S (120 + 7 * i + 2) < S (10 + 3 * vyOf S i + 1) then S (10 + 3 * vyOf S i + 2) else 0
def watchS (S : Row) (i : Nat) : Int32 := hld ((lawS S i 2 0).toInt64 + (byS S i).toInt64) (-200) 200
def saysS (S : Row) (i : Nat) : Int32 := if S (120 + 7 * i) = 1 then S (120 + 7 * i + 3) * logS S i / 100 else if S (120 + 7 * i) = 2 then S (120 + 7 * i + 3) + needleS S i else if S (120 + 7 * i) = 3 then S (120 + 7 * i + 3) + watchS S i else if S (120 + 7 * i) = 4 then S (120 + 7 * i + 3) + S (120 + 7 * i + 4) / 10 else if S (120 + 7 * i) = 5 then (S (120 + 7 * i + 3) + S (120 + 7 * i + 4) / 10) / 5 * 5 else if S (120 + 7 * i) = 7 then S (120 + 7 * i + 3) + S (120 + 7 * i + 4) / 10 - S (120 + 7 * i + 4) / 10 else S (120 + 7 * i + 3)
def spanS (S : Row) (i : Nat) : Int32 := if S (120 + 7 * i) = 1 then 10 + S (120 + 7 * i + 3) / 20 else if S (120 + 7 * i) = 2 then 15 else if S (120 + 7 * i) = 3 then 5 + S (120 + 7 * i + 2) / 10 else if S (120 + 7 * i) = 4 then 25 else if S (120 + 7 * i) = 5 then 35 else if S (120 + 7 * i) = 7 then 2 else 20
def worthS (k : Int32) : Int32 := if k = 3 then 5 else if k = 4 then 2 else if k = 5 then 2 else if k = 6 then 3 else if k = 7 then 8 else 1
theorem worthC_eq (k : Int32) (M : Mem) : f_X9_worthOf k M = some (worthS k, M) := by
  unfold f_X9_worthOf f_X9_worthOf_b0 worthS
  repeat' split
  all_goals rfl
theorem worthM_eq (k : Int32) (M : Mem) : f_X10_worthOf k M = some (worthS k, M) := by
  unfold f_X10_worthOf f_X10_worthOf_b0 worthS
  repeat' split
  all_goals rfl
theorem logC {M : Mem} {S : Row} {co n t i : Nat} (h : RV M S co n t) (hi : i < n) : ∃ M', f_X0_logOf co (co + 8 + i) M = some (logS S i, M') ∧ ∀ x, x ≠ 47 → M' x = M x := by
  obtain ⟨M', e, hM⟩ := lawFor_eq h hi (key := 0) (by omega) 100
  have e : f_X0_lawFor co (co + 8 + i) 0 100 M = _ := e
  unfold f_X0_logOf f_X0_logOf_b0
  rw [e]
  simp only [Option.bind_some]
  rw [heldC_eq _ (by decide)]
  exact ⟨M', rfl, hM⟩
theorem needleC {M : Mem} {S : Row} {co n t i : Nat} (h : RV M S co n t) (hi : i < n) : ∃ M', f_X0_needleOf co (co + 8 + i) M = some (needleS S i, M') ∧ ∀ x, x ≠ 47 → M' x = M x := by
  obtain ⟨M', e, hM⟩ := lawFor_eq h hi (key := 1) (by omega) 0
  have e : f_X0_lawFor co (co + 8 + i) 1 0 M = _ := e
  unfold f_X0_needleOf f_X0_needleOf_b0
  rw [e]
  simp only [Option.bind_some]
  rw [heldC_eq _ (by decide)]
  exact ⟨M', rfl, hM⟩
theorem watchWith_eq (x y : Int32) (M : Mem) : f_X0_watchWith x y M = some (hld (x.toInt64 + y.toInt64) (-200) 200, M) := by
  unfold f_X0_watchWith f_X0_watchWith_b0
  rw [heldC_eq _ (by decide)]
  rfl
theorem watchC {M : Mem} {S : Row} {co n t i : Nat} (h : RV M S co n t) (hi : i < n) : ∃ M', f_X0_watchOf co (co + 8 + i) M = some (watchS S i, M') ∧ ∀ x, x ≠ 47 → M' x = M x := by
  have h' := h
  obtain ⟨h0, h1, h2, h3, h4, h5⟩ := h
  obtain ⟨ok, eq⟩ := h2.2.2 i hi
  obtain ⟨ev, hv⟩ := vy_nI ok
  obtain ⟨m0, m1, m2, m3, m4, -⟩ := eq
  have hrc := rf_co co h0
  obtain ⟨M', e, hM⟩ := lawFor_eq h' hi (key := 2) (by omega) 0
  have e : f_X0_lawFor co (co + 8 + i) 2 0 M = _ := e
  have go : f_X0_watchOf_b29 co (co + 8 + i) (byS S i) M = some (watchS S i, M') := by
    unfold f_X0_watchOf_b29
    rw [e]
    simp only [Option.bind_some]
    rw [watchWith_eq]
    rfl
  refine ⟨M', ?_, hM⟩
  unfold f_X0_watchOf f_X0_watchOf_b0
  have m1 : M (co + 8 + i) 1 = nI (vyOf S i) := m1.trans ev
  have m2 : M (co + 8 + i) 2 = S (120 + 7 * i + 2) := m2
  rw [m1, m2, if_pos (ixb_t (by omega) (by omega)), ix_nI (by omega), hrc.2.2.2.2.2.2.1, hrc.2.2.2.2.2.2.2.1, if_pos (ixb_t (by omega) (by omega))]
  rcases h5 _ hv with ⟨a, b, c, d, -⟩ | ⟨a, b⟩
  · rw [b, c]
    by_cases hlt : S (120 + 7 * i + 2) < S (10 + 3 * vyOf S i + 1)
    · rw [if_pos hlt]
      rw [show byS S i = 0 from by unfold byS; rw [if_neg (fun q => q.2 hlt)]] at go
      exact go
    · rw [if_neg hlt]
      rw [show byS S i = S (10 + 3 * vyOf S i + 2) from by unfold byS; rw [if_pos ⟨a, hlt⟩]] at go
      exact go
  · rw [b, if_pos]
    · rw [show byS S i = 0 from by unfold byS; rw [if_neg (fun q => by rw [a] at q; exact absurd q.1 (by decide))]] at go
      exact go
    · rw [i_lt]
      have := ok.2.2.1.2
      have e100 : (100 : Int32).toInt = 100 := by decide
      rw [e100]
      omega
theorem saysC {M : Mem} {S : Row} {co n t i : Nat} (h : RV M S co n t) (hi : i < n) : ∃ M', f_X0_saysOf co (co + 8 + i) M = some (saysS S i, M') ∧ ∀ x, x ≠ 47 → M' x = M x := by
  obtain ⟨-, m0, m1, m2, m3, m4, -⟩ := h.2.2.1.2.2 i hi
  have m0 : M (co + 8 + i) 0 = S (120 + 7 * i) := m0
  have m3 : M (co + 8 + i) 3 = S (120 + 7 * i + 3) := m3
  have m4 : M (co + 8 + i) 4 = S (120 + 7 * i + 4) := m4
  unfold f_X0_saysOf f_X0_saysOf_b0 f_X0_saysOf_b114 saysS
  rw [m0, m3, m4]
  by_cases k1 : S (120 + 7 * i) = 1
  · obtain ⟨M', e, hM⟩ := logC h hi
    rw [if_pos k1, if_pos k1, e]
    exact ⟨M', rfl, hM⟩
  rw [if_neg k1, if_neg k1]
  by_cases k2 : S (120 + 7 * i) = 2
  · obtain ⟨M', e, hM⟩ := needleC h hi
    rw [if_pos k2, if_pos k2, e]
    exact ⟨M', rfl, hM⟩
  rw [if_neg k2, if_neg k2]
  by_cases k3 : S (120 + 7 * i) = 3
  · obtain ⟨M', e, hM⟩ := watchC h hi
    rw [if_pos k3, if_pos k3, e]
    exact ⟨M', rfl, hM⟩
  rw [if_neg k3, if_neg k3]
  refine ⟨M, ?_, fun _ _ => rfl⟩
  repeat' split
  all_goals first | rfl | simp_all
theorem spanC {M : Mem} {S : Row} {mk i : Nat} (h : MkEq (M mk) S i) : f_X2_span mk M = some (spanS S i, M) := by
  obtain ⟨m0, m1, m2, m3, m4, -⟩ := h
  unfold f_X2_span f_X2_span_b0 spanS
  rw [m0, m2, m3]
  repeat' split
  all_goals first | rfl | simp_all
theorem logM {N : Mem} {n t i : Nat} (h : SV (N 1) n t) (hi : i < n) : ∃ N', f_X10_logOf (nI i) N = some (logS (N 1) i, N') ∧ ∀ x, x ≠ 13 → x ≠ 14 → N' x = N x := by
  obtain ⟨N', e, hN⟩ := byLaw_eq h hi (key := 0) (by omega) 100
  have e : f_X10_byLaw (nI i) 0 100 N = _ := e
  unfold f_X10_logOf f_X10_logOf_b0
  rw [e]
  simp only [Option.bind_some]
  rw [heldM_eq]
  exact ⟨N', rfl, hN⟩
theorem needleM {N : Mem} {n t i : Nat} (h : SV (N 1) n t) (hi : i < n) : ∃ N', f_X10_needleOf (nI i) N = some (needleS (N 1) i, N') ∧ ∀ x, x ≠ 13 → x ≠ 14 → N' x = N x := by
  obtain ⟨N', e, hN⟩ := byLaw_eq h hi (key := 1) (by omega) 0
  have e : f_X10_byLaw (nI i) 1 0 N = _ := e
  unfold f_X10_needleOf f_X10_needleOf_b0
  rw [e]
  simp only [Option.bind_some]
  rw [heldM_eq]
  exact ⟨N', rfl, hN⟩
theorem watchM {N : Mem} {n t i : Nat} (h : SV (N 1) n t) (hi : i < n) : ∃ N', f_X10_watchOf (nI i) N = some (watchS (N 1) i, N') ∧ ∀ x, x ≠ 13 → x ≠ 14 → N' x = N x := by
  have ok := h.2.2.1 i hi
  have hn := h.2.1
  obtain ⟨ev, hv⟩ := vy_nI ok
  have h24 : i < 24 := by omega
  obtain ⟨N', e, hN⟩ := byLaw_eq h hi (key := 2) (by omega) 0
  have e : f_X10_byLaw (nI i) 2 0 N = _ := e
  have go : f_X10_watchOf_b51 (nI i) (byS (N 1) i) N = some (watchS (N 1) i, N') := by
    unfold f_X10_watchOf_b51
    rw [e]
    simp only [Option.bind_some]
    rw [heldM_eq]
    rfl
  refine ⟨N', ?_, hN⟩
  unfold f_X10_watchOf f_X10_watchOf_b0 f_X10_watchOf_b50
  rw [fd1 h24]
  simp only [Option.bind_some]
  rw [ev]
  have e0 : (10 : Int32) + (3 : Int32) * nI (vyOf (N 1) i) = nI (10 + 3 * vyOf (N 1) i) := by rw [i_lit, i_lit, nI_mul, nI_add]
  have e1 : nI (10 + 3 * vyOf (N 1) i) + 1 = nI (10 + 3 * vyOf (N 1) i + 1) := nI_1 _
  have e2 : nI (10 + 3 * vyOf (N 1) i) + 2 = nI (10 + 3 * vyOf (N 1) i + 2) := by rw [i_lit, nI_add]
  rw [e0, if_pos (ixb_t (by omega) (by omega)), ix_nI (by omega), e1, e2]
  by_cases a : N 1 (10 + 3 * vyOf (N 1) i) = 1
  · rw [if_pos a, fd2 h24]
    simp only [Option.bind_some]
    rw [if_pos (ixb_t (by omega) (by omega)), ix_nI (by omega)]
    by_cases hlt : N 1 (120 + 7 * i + 2) < N 1 (10 + 3 * vyOf (N 1) i + 1)
    · rw [if_pos hlt]
      rw [show byS (N 1) i = 0 from by unfold byS; rw [if_neg (fun q => q.2 hlt)]] at go
      exact go
    · rw [if_neg hlt, if_pos (ixb_t (by omega) (by omega)), ix_nI (by omega)]
      rw [show byS (N 1) i = N 1 (10 + 3 * vyOf (N 1) i + 2) from by unfold byS; rw [if_pos ⟨a, hlt⟩]] at go
      exact go
  · rw [if_neg a]
    rw [show byS (N 1) i = 0 from by unfold byS; rw [if_neg (fun q => a q.1)]] at go
    exact go
theorem saysM {N : Mem} {n t i : Nat} (h : SV (N 1) n t) (hi : i < n) : ∃ N', f_X10_says (nI i) N = some (saysS (N 1) i, N') ∧ ∀ x, x ≠ 13 → x ≠ 14 → N' x = N x := by
  have hn := h.2.1
  have h24 : i < 24 := by omega
  unfold f_X10_says f_X10_says_b0 saysS
  simp only [fd3 h24, fd4 h24, fd0 h24, Option.bind_some]
  by_cases k1 : N 1 (120 + 7 * i) = 1
  · obtain ⟨M', e, hM⟩ := logM h hi
    rw [if_pos k1, if_pos k1, e]
    exact ⟨M', rfl, hM⟩
  rw [if_neg k1, if_neg k1]
  by_cases k2 : N 1 (120 + 7 * i) = 2
  · obtain ⟨M', e, hM⟩ := needleM h hi
    rw [if_pos k2, if_pos k2, e]
    exact ⟨M', rfl, hM⟩
  rw [if_neg k2, if_neg k2]
  by_cases k3 : N 1 (120 + 7 * i) = 3
  · obtain ⟨M', e, hM⟩ := watchM h hi
    rw [if_pos k3, if_pos k3, e]
    exact ⟨M', rfl, hM⟩
  rw [if_neg k3, if_neg k3]
  refine ⟨N, ?_, fun _ _ _ => rfl⟩
  repeat' split
  all_goals first | rfl | simp_all
theorem spanM {N : Mem} {i : Nat} (h24 : i < 24) : f_X10_spanOf (nI i) N = some (spanS (N 1) i, N) := by
  unfold f_X10_spanOf f_X10_spanOf_b0 spanS
  simp only [fd3 h24, fd2 h24, fd0 h24, Option.bind_some]
  repeat' split
  all_goals first | rfl | simp_all
