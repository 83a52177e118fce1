/-! MARKS -/
theorem nn {p : Prop} (h : p) : ¬ ¬ p := fun q => q h
theorem i_pred {n : Nat} (hn : n ≤ 2 ^ 30) : (nI n - 1).toInt = (n : Int) - 1 := by
  rw [Int32.toInt_sub, nI_toInt (by omega)]
  have : (1 : Int32).toInt = 1 := by decide
  rw [this]
  apply Int.bmod_eq_of_le <;> omega
theorem isMark_eq {N : Mem} {n : Nat} (h : N 1 0 = nI n) (hn : n ≤ 24) (x : Int32) : f_X10_isMark x N = some (b2i (0 ≤ x.toInt ∧ x.toInt < (n : Int)), N) := by
  unfold f_X10_isMark f_X10_isMark_b0
  rw [isIn_eq, h]
  simp only [Option.bind_some, b2i_z01, if_true, l_of]
  rw [i_pred (by omega)]
  have h0 : (0 : Int64).toInt = 0 := by decide
  rw [h0]
  congr 2
  exact b2i_congr (by omega)
theorem isText_eq {N : Mem} {n : Nat} (h : N 1 1 = nI n) (hn : n ≤ 24) (x : Int32) : f_X10_isText x N = some (b2i (0 ≤ x.toInt ∧ x.toInt < (n : Int)), N) := by
  unfold f_X10_isText f_X10_isText_b0
  rw [isIn_eq, h]
  simp only [Option.bind_some, b2i_z01, if_true, l_of]
  rw [i_pred (by omega)]
  have h0 : (0 : Int64).toInt = 0 := by decide
  rw [h0]
  congr 2
  exact b2i_congr (by omega)
theorem isVoyage_eq (x : Int32) (N : Mem) : f_X10_isVoyage x N = some (b2i (0 ≤ x.toInt ∧ x.toInt < 3), N) := by
  unfold f_X10_isVoyage f_X10_isVoyage_b0
  rw [isIn_eq]
  simp only [Option.bind_some, b2i_z01, if_true]
  have h0 : (0 : Int64).toInt = 0 := by decide
  have h2 : (2 : Int64).toInt = 2 := by decide
  rw [h0, h2]
  congr 2
  exact b2i_congr (by omega)
theorem isCape_eq (x : Int32) (N : Mem) : f_X10_isCape x N = some (b2i (0 ≤ x.toInt ∧ x.toInt < 9), N) := by
  unfold f_X10_isCape f_X10_isCape_b0
  rw [isIn_eq]
  simp only [Option.bind_some, b2i_z01, if_true]
  have h0 : (0 : Int64).toInt = 0 := by decide
  have h2 : (8 : Int64).toInt = 8 := by decide
  rw [h0, h2]
  congr 2
  exact b2i_congr (by omega)
theorem isInN (x : Int32) (lo hi : Int64) (a b : Int) (ha : lo.toInt = a) (hb : hi.toInt = b) (M : Mem) : f_X10_isIn x.toInt64 lo hi M = some (b2i (a ≤ x.toInt ∧ x.toInt ≤ b), M) := by
  subst ha; subst hb
  exact isIn_eq x lo hi M
theorem isBelowN (x l : Int32) (b : Int) (hb : l.toInt = b) (M : Mem) : f_X9_isBelow x l M = some (b2i (0 ≤ x.toInt ∧ x.toInt < b), M) := by
  subst hb
  exact isBelow_eq x l M
theorem isWithinN (x lo hi : Int32) (a b : Int) (ha : lo.toInt = a) (hb : hi.toInt = b) (M : Mem) : f_X9_isWithin x lo hi M = some (b2i (a ≤ x.toInt ∧ x.toInt ≤ b), M) := by
  subst ha; subst hb
  exact isWithin_eq x lo hi M
theorem orNone_eq (x : Int32) (M : Mem) : f_X10_orNone x M = some (uc x, M) := by
  unfold f_X10_orNone f_X10_orNone_b0 uc
  split <;> rfl
theorem becomes_eq {k : Nat} (hk : k < 3300) (v : Int32) (N : Mem) : f_X10_becomes (nI k) v N = some (N 1 k, mset N 1 k v) := by
  unfold f_X10_becomes f_X10_becomes_b0
  rw [if_pos (ixb_t hk (by omega)), if_pos (ixb_t hk (by omega)), ix_nI (by omega)]
theorem markAt_eq {i : Nat} (N : Mem) : f_X10_markAt (nI i) N = some (nI (120 + 7 * i), N) := by
  unfold f_X10_markAt f_X10_markAt_b0
  rw [show (120 : Int32) + (7 : Int32) * nI i = nI (120 + 7 * i) from by rw [i_lit, i_lit, nI_mul, nI_add]]
def isUS (own kind : Int32) : Prop := own = kind ∨ kind = 0 ∨ (kind = 4 ∧ (own = 5 ∨ own = 7))
theorem isUnder_eq {own : Int32} (ho : 0 ≤ own.toInt ∧ own.toInt ≤ 7) (kind : Int32) (M : Mem) : ∃ r, f_X9_isUnder own kind M = some (r, M) ∧ (r = 0 ↔ ¬ isUS own kind) ∧ (r = 0 ∨ r = 1) := by
  unfold f_X9_isUnder f_X9_isUnder_b0 f_X9_isUnder_b18 isUS
  by_cases h1 : own = kind
  · rw [if_pos h1]
    exact ⟨1, rfl, by simp [h1], Or.inr rfl⟩
  rw [if_neg h1]
  by_cases h2 : kind = 0
  · rw [if_pos h2]
    exact ⟨1, rfl, by simp [h2], Or.inr rfl⟩
  rw [if_neg h2]
  obtain ⟨k, hk, e⟩ := i_of (n := 8) ho.1 (by omega)
  rw [e, if_pos (ixb_t hk (by omega)), ix_nI (by omega)]
  have tab : ∀ k, k < 8 → (aboveT k = 0 ∧ nI k ≠ 5 ∧ nI k ≠ 7) ∨ (aboveT k = 4 ∧ (nI k = 5 ∨ nI k = 7)) := by decide +kernel
  rw [e] at h1
  rcases tab k hk with ⟨a, b, c⟩ | ⟨a, b⟩
  · rw [a, if_neg (fun q => h2 q.symm)]
    exact ⟨0, rfl, by simp [h1, h2, b, c], Or.inl rfl⟩
  · rw [a]
    by_cases h3 : kind = 4
    · rw [if_pos h3.symm]
      exact ⟨1, rfl, by simp [h3, b], Or.inr rfl⟩
    · rw [if_neg (fun q => h3 q.symm)]
      exact ⟨0, rfl, by simp [h1, h2, h3], Or.inl rfl⟩
theorem isOf_eq (own kind : Int32) (M : Mem) : ∃ r, f_X10_isOf own kind M = some (r, M) ∧ (r = 0 ↔ ¬ isUS own kind) ∧ (r = 0 ∨ r = 1) := by
  unfold f_X10_isOf f_X10_isOf_b0 f_X10_isOf_b25 isUS
  by_cases h2 : kind = 0
  · rw [if_pos h2]
    exact ⟨1, rfl, by simp [h2], Or.inr rfl⟩
  rw [if_neg h2]
  by_cases h1 : own = kind
  · rw [if_pos h1]
    exact ⟨1, rfl, by simp [h1], Or.inr rfl⟩
  rw [if_neg h1]
  by_cases h3 : kind = 4
  · rw [if_pos h3]
    by_cases h5 : own = 5
    · rw [if_pos h5]
      exact ⟨1, rfl, by simp [h3, h5], Or.inr rfl⟩
    rw [if_neg h5]
    by_cases h7 : own = 7
    · rw [if_pos h7]
      exact ⟨1, rfl, by simp [h3, h7], Or.inr rfl⟩
    rw [if_neg h7]
    exact ⟨0, rfl, by simp [h1, h2, h5, h7], Or.inl rfl⟩
  · rw [if_neg h3]
    exact ⟨0, rfl, by simp [h1, h2, h3], Or.inl rfl⟩
theorem q_told {M N : Mem} (h : Rel M N) (x1 x2 : Int32) : Eqv (f_X9_told x1 x2 M) (f_X10_told x1 x2 N) := by
  obtain ⟨n, t, hv⟩ := RV.of (Or.inl rfl) h.1
  have hs := hv.sv
  have hn := hs.2.1
  unfold f_X9_told f_X9_told_b0 f_X10_told f_X10_told_b0
  rw [hv.2.1, isBelowN x1 (nI n) n (nI_toInt (by omega)), isMark_eq hs.1 hn]
  simp only [Option.bind_some, b2i_eq0]
  by_cases hc : 0 ≤ x1.toInt ∧ x1.toInt < (n : Int)
  rotate_left
  · rw [if_pos hc, if_pos hc]
    exact ⟨_, M, N, rfl, rfl, h⟩
  rw [if_neg (nn hc), if_neg (nn hc)]
  obtain ⟨i, hi, rfl⟩ := i_of hc.1 hc.2
  have h24 : i < 24 := by omega
  have r : rfC 49 i = 48 + 8 + i := rf_mk (co := 48) (Or.inl rfl) h24
  obtain ⟨ok, m0, m1, m2, m3, m4, m5, m6⟩ := hv.2.2.1.2.2 i hi
  have m0 : M (48 + 8 + i) 0 = _ := m0
  have m1 : M (48 + 8 + i) 1 = _ := m1
  have m2 : M (48 + 8 + i) 2 = _ := m2
  have m3 : M (48 + 8 + i) 3 = _ := m3
  have m4 : M (48 + 8 + i) 4 = _ := m4
  have m5 : M (48 + 8 + i) 5 = _ := m5
  have m6 : M (48 + 8 + i) 6 = _ := m6
  rw [if_pos (ixb_t h24 (by omega)), ix_nI (by omega), r]
  by_cases c0 : x2 = 0
  · rw [if_pos c0, if_pos c0]
    rw [f_X10_told_b80, c0, fd0 h24, m0]
    exact ⟨_, M, N, rfl, rfl, h⟩
  rw [if_neg c0, if_neg c0]
  by_cases c1 : x2 = 1
  · rw [if_pos c1, if_pos c1]
    rw [f_X10_told_b80, c1, fd1 h24, m1]
    exact ⟨_, M, N, rfl, rfl, h⟩
  rw [if_neg c1, if_neg c1]
  by_cases c2 : x2 = 2
  · rw [if_pos c2, if_pos c2]
    rw [f_X10_told_b80, c2, fd2 h24, m2]
    exact ⟨_, M, N, rfl, rfl, h⟩
  rw [if_neg c2, if_neg c2]
  by_cases c3 : x2 = 3
  · rw [if_pos c3, if_pos c3]
    rw [f_X10_told_b80, c3, fd3 h24, m3]
    exact ⟨_, M, N, rfl, rfl, h⟩
  rw [if_neg c3, if_neg c3]
  by_cases c4 : x2 = 4
  · rw [if_pos c4, if_pos c4]
    rw [f_X10_told_b80, c4, fd4 h24, m4]
    exact ⟨_, M, N, rfl, rfl, h⟩
  rw [if_neg c4, if_neg c4]
  by_cases c5 : x2 = 5
  · rw [if_pos c5, if_pos c5]
    rw [fd5 h24, m5]
    simp only [Option.bind_some, orNone_eq]
    exact ⟨_, M, N, rfl, rfl, h⟩
  rw [if_neg c5, if_neg c5]
  by_cases c6 : x2 = 6
  · rw [if_pos c6, if_pos c6]
    obtain ⟨M1, e1, g1⟩ := saysC hv hi
    obtain ⟨N1, e2, g2⟩ := saysM hs hi
    rw [e1, e2]
    exact ⟨_, M1, N1, rfl, rfl, h.scr (SC.of47 g1) (SM.of g2)⟩
  rw [if_neg c6, if_neg c6]
  by_cases c7 : x2 = 7
  · rw [if_pos c7, if_pos c7]
    rw [spanC (i := i) ⟨m0, m1, m2, m3, m4, m5, m6⟩, spanM h24]
    exact ⟨_, M, N, rfl, rfl, h⟩
  rw [if_neg c7, if_neg c7]
  by_cases c8 : x2 = 8
  · rw [if_pos c8, if_pos c8]
    rw [m0, fd0 h24]
    simp only [Option.bind_some, worthC_eq, worthM_eq]
    exact ⟨_, M, N, rfl, rfl, h⟩
  rw [if_neg c8, if_neg c8]
  by_cases c9 : x2 = 9
  · rw [if_pos c9, if_pos c9]
    rw [fd6 h24, m6]
    simp only [Option.bind_some, orNone_eq]
    exact ⟨_, M, N, rfl, rfl, h⟩
  rw [if_neg c9, if_neg c9]
  by_cases c10 : x2 = 10
  · rw [if_pos c10, if_pos c10]
    obtain ⟨M1, e1, g1⟩ := logC hv hi
    obtain ⟨N1, e2, g2⟩ := logM hs hi
    rw [e1, e2]
    exact ⟨_, M1, N1, rfl, rfl, h.scr (SC.of47 g1) (SM.of g2)⟩
  rw [if_neg c10, if_neg c10]
  by_cases c11 : x2 = 11
  · rw [if_pos c11, if_pos c11]
    obtain ⟨M1, e1, g1⟩ := needleC hv hi
    obtain ⟨N1, e2, g2⟩ := needleM hs hi
    rw [e1, e2]
    exact ⟨_, M1, N1, rfl, rfl, h.scr (SC.of47 g1) (SM.of g2)⟩
  rw [if_neg c11, if_neg c11]
  by_cases c12 : x2 = 12
  · rw [if_pos c12, if_pos c12]
    obtain ⟨M1, e1, g1⟩ := watchC hv hi
    obtain ⟨N1, e2, g2⟩ := watchM hs hi
    rw [e1, e2]
    exact ⟨_, M1, N1, rfl, rfl, h.scr (SC.of47 g1) (SM.of g2)⟩
  rw [if_neg c12, if_neg c12]
  exact ⟨_, M, N, rfl, rfl, h⟩
theorem q_as {M N : Mem} (h : Rel M N) (x1 x2 : Int32) : Eqv (f_X9_as x1 x2 M) (f_X10_as x1 x2 N) := by
  obtain ⟨n, t, hv⟩ := RV.of (Or.inl rfl) h.1
  have hs := hv.sv
  have hn := hs.2.1
  unfold f_X9_as f_X9_as_b0 f_X10_as f_X10_as_b0
  rw [hv.2.1, isBelowN x1 (nI n) n (nI_toInt (by omega)), isMark_eq hs.1 hn]
  simp only [Option.bind_some, b2i_eq0]
  by_cases hc : 0 ≤ x1.toInt ∧ x1.toInt < (n : Int)
  rotate_left
  · rw [if_pos hc, if_pos hc]
    exact ⟨_, M, N, rfl, rfl, h⟩
  rw [if_neg (nn hc), if_neg (nn hc), isBelowN x2 8 8 (by decide), isInN x2 0 7 0 7 (by decide) (by decide)]
  simp only [Option.bind_some, b2i_eq0]
  by_cases hk : 0 ≤ x2.toInt ∧ x2.toInt < 8
  rotate_left
  · rw [if_pos hk, if_pos (show ¬ (0 ≤ x2.toInt ∧ x2.toInt ≤ 7) by omega)]
    exact ⟨_, M, N, rfl, rfl, h⟩
  rw [if_neg (nn hk), if_neg (nn (show 0 ≤ x2.toInt ∧ x2.toInt ≤ 7 by omega))]
  obtain ⟨i, hi, rfl⟩ := i_of hc.1 hc.2
  have h24 : i < 24 := by omega
  have r : rfC 49 i = 48 + 8 + i := rf_mk (co := 48) (Or.inl rfl) h24
  obtain ⟨ok, m0, m1, m2, m3, m4, m5, m6⟩ := hv.2.2.1.2.2 i hi
  have m0 : M (48 + 8 + i) 0 = _ := m0
  have m3 : M (48 + 8 + i) 3 = _ := m3
  rw [if_pos (ixb_t h24 (by omega)), ix_nI (by omega), r, m0, fd0 h24]
  simp only [Option.bind_some]
  obtain ⟨r1, e1, g1, -⟩ := isUnder_eq ok.1 x2 M
  obtain ⟨r2, e2, g2, -⟩ := isOf_eq (N 1 (120 + 7 * i)) x2 N
  rw [e1, e2]
  simp only [Option.bind_some]
  by_cases hu : isUS (N 1 (120 + 7 * i)) x2
  · rw [if_neg (fun q => (g1.mp q) hu), if_neg (fun q => (g2.mp q) hu), m3, fd3 h24]
    exact ⟨_, M, N, rfl, rfl, h⟩
  · rw [if_pos (g1.mpr hu), if_pos (g2.mpr hu)]
    exact ⟨_, M, N, rfl, rfl, h⟩
/-- a mark's cape or name changes -/
theorem RCo.setM {M : Mem} {S : Row} {n t : Nat} (h : RCo M S 48) (hv : RV M S 48 n t) {i f : Nat} (hi : i < n) (hf : f = 5 ∨ f = 6) {x : Int32} (hx : -1 ≤ x.toInt ∧ x.toInt ≤ (if f = 5 then 8 else 9)) : RCo (mset M (48 + 8 + i) f (uc x)) (upd S (120 + 7 * i + f) x) 48 := by
  obtain ⟨⟨n', h1, h2, nc, cs, h3⟩, ⟨t', h4, h5⟩, ⟨np, h6, h7⟩, h8, h9, h10⟩ := h
  have hn := h2.1
  have htt := h5.1
  have hnn : n' = n := by
    have := hv.2.1
    rw [h1] at this
    exact (nI_eq (by omega) (by have := hv.2.2.1.1; omega)).mp this
  subst hnn
  have cM : ∀ y, y ≠ 48 + 8 + i → mset M (48 + 8 + i) f (uc x) y = M y := fun y hy => mset_ne hy
  have cS : ∀ k, k ≠ 120 + 7 * i + f → upd S (120 + 7 * i + f) x k = S k := fun k hk => upd_ne hk
  refine ⟨⟨n', by rw [cM 48 (by omega)]; exact h1, ⟨h2.1, by rw [cS 0 (by omega)]; exact h2.2.1, fun i' hi' => ?_⟩, nc, cs, ?_⟩, ⟨t', by rw [cM 48 (by omega)]; exact h4, ?_⟩, ⟨np, by rw [cM 48 (by omega)]; exact h6, ?_⟩, ?_, ?_, by rw [cM 48 (by omega), cS 4 (by omega)]; exact h10⟩
  · obtain ⟨ok, eq⟩ := h2.2.2 i' hi'
    by_cases hii : i' = i
    · subst hii
      obtain ⟨o0, o1, o2, o3, o4, o5, o6⟩ := ok
      obtain ⟨m0, m1, m2, m3, m4, m5, m6⟩ := eq
      have self : ∀ k, mset M (48 + 8 + i') f (uc x) (48 + 8 + i') k = if k = f then uc x else M (48 + 8 + i') k := fun k => by rw [mset_self]; rfl
      have sS : ∀ k, upd S (120 + 7 * i' + f) x (120 + 7 * i' + k) = if k = f then x else S (120 + 7 * i' + k) := fun k => by
        unfold upd
        by_cases q : k = f
        · rw [if_pos (by omega), if_pos q]
        · rw [if_neg (by omega), if_neg q]
      have s0 : upd S (120 + 7 * i' + f) x (120 + 7 * i') = S (120 + 7 * i') := cS _ (by omega)
      unfold MkOk MkEq
      simp only [s0, sS, self]
      rcases hf with rfl | rfl
      · simp only [if_true] at hx
        simp only [Nat.reduceEqDiff, if_false, if_true]
        exact ⟨⟨o0, o1, o2, o3, o4, hx, o6⟩, m0, m1, m2, m3, m4, trivial, m6⟩
      · simp only [Nat.reduceEqDiff, if_false] at hx
        simp only [Nat.reduceEqDiff, if_false, if_true]
        exact ⟨⟨o0, o1, o2, o3, o4, o5, hx⟩, m0, m1, m2, m3, m4, m5, trivial⟩
    · refine ⟨ok.cgS (fun k hk => cS _ (by omega)), ?_⟩
      show MkEq (mset M (48 + 8 + i) f (uc x) (48 + 8 + i')) _ i'
      rw [cM _ (by omega)]
      exact eq.cgS (fun k hk => cS _ (by omega))
  · rw [cM (48 + 2) (by omega), cM (48 + 3) (by omega)]
    exact h3.cgS (cS _ (by omega)) (fun k _ _ => cS _ (by omega)) (fun i' _ => cS _ (by omega))
  · exact (h5.cg (fun j hj => ⟨cM _ (by omega), cM _ (by omega)⟩)).cgS (cS _ (by omega)) (fun k _ _ => cS _ (by omega))
  · rw [cM (48 + 4) (by omega)]
    exact h7.cgS (cS _ (by omega)) (fun k _ _ => cS _ (by omega))
  · rw [cM (48 + 5) (by omega), cM (48 + 6) (by omega)]
    exact h8.cgS (fun k _ _ => cS _ (by omega))
  · rw [cM (48 + 7) (by omega)]
    exact h9.cgS (fun k _ _ => cS _ (by omega))
theorem q_put {M N : Mem} (h : Rel M N) (x1 x2 : Int32) : Eqv (f_X9_put x1 x2 M) (f_X10_put x1 x2 N) := by
  obtain ⟨n, t, hv⟩ := RV.of (Or.inl rfl) h.1
  have hs := hv.sv
  have hn := hs.2.1
  unfold f_X9_put f_X9_put_b0 f_X10_put f_X10_put_b0
  rw [hv.2.1, isBelowN x1 (nI n) n (nI_toInt (by omega)), isMark_eq hs.1 hn]
  simp only [Option.bind_some, b2i_eq0]
  by_cases hc : 0 ≤ x1.toInt ∧ x1.toInt < (n : Int)
  rotate_left
  · rw [if_pos hc, if_pos hc]
    exact ⟨_, M, N, rfl, rfl, h⟩
  rw [if_neg (nn hc), if_neg (nn hc), isWithinN x2 (-1) 8 (-1) 8 (by decide) (by decide), isInN x2 (-1) 8 (-1) 8 (by decide) (by decide)]
  simp only [Option.bind_some, b2i_eq0]
  by_cases hk : -1 ≤ x2.toInt ∧ x2.toInt ≤ 8
  rotate_left
  · rw [if_pos hk, if_pos hk]
    exact ⟨_, M, N, rfl, rfl, h⟩
  rw [if_neg (nn hk), if_neg (nn hk)]
  obtain ⟨i, hi, rfl⟩ := i_of hc.1 hc.2
  have h24 : i < 24 := by omega
  have r : rfC 49 i = 48 + 8 + i := rf_mk (co := 48) (Or.inl rfl) h24
  obtain ⟨ok, m0, m1, m2, m3, m4, m5, m6⟩ := hv.2.2.1.2.2 i hi
  have m5 : M (48 + 8 + i) 5 = _ := m5
  rw [if_pos (ixb_t h24 (by omega)), ix_nI (by omega), r, m5, markAt_eq]
  simp only [Option.bind_some]
  rw [show nI (120 + 7 * i) + 5 = nI (120 + 7 * i + 5) from by rw [i_lit, nI_add], becomes_eq (by omega)]
  simp only [Option.bind_some, orNone_eq, f_X9_put_b54]
  refine ⟨_, mset M (48 + 8 + i) 5 (uc x2), _, ?_, rfl, h.set1 (by omega) (h.1.setM hv hi (Or.inl rfl) (by simpa using hk)) (by omega)⟩
  unfold uc
  split <;> rfl
theorem q_name {M N : Mem} (h : Rel M N) (x1 x2 : Int32) : Eqv (f_X9_name x1 x2 M) (f_X10_name x1 x2 N) := by
  obtain ⟨n, t, hv⟩ := RV.of (Or.inl rfl) h.1
  have hs := hv.sv
  have hn := hs.2.1
  unfold f_X9_name f_X9_name_b0 f_X10_name f_X10_name_b0
  rw [hv.2.1, isBelowN x1 (nI n) n (nI_toInt (by omega)), isMark_eq hs.1 hn]
  simp only [Option.bind_some, b2i_eq0]
  by_cases hc : 0 ≤ x1.toInt ∧ x1.toInt < (n : Int)
  rotate_left
  · rw [if_pos hc, if_pos hc]
    exact ⟨_, M, N, rfl, rfl, h⟩
  rw [if_neg (nn hc), if_neg (nn hc), isBelowN x2 10 10 (by decide), isInN x2 0 9 0 9 (by decide) (by decide)]
  simp only [Option.bind_some, b2i_eq0]
  by_cases hk : 0 ≤ x2.toInt ∧ x2.toInt < 10
  rotate_left
  · rw [if_pos hk, if_pos (show ¬ (0 ≤ x2.toInt ∧ x2.toInt ≤ 9) by omega)]
    exact ⟨_, M, N, rfl, rfl, h⟩
  rw [if_neg (nn hk), if_neg (nn (show 0 ≤ x2.toInt ∧ x2.toInt ≤ 9 by omega))]
  obtain ⟨i, hi, rfl⟩ := i_of hc.1 hc.2
  have h24 : i < 24 := by omega
  have r : rfC 49 i = 48 + 8 + i := rf_mk (co := 48) (Or.inl rfl) h24
  obtain ⟨ok, m0, m1, m2, m3, m4, m5, m6⟩ := hv.2.2.1.2.2 i hi
  have m0 : M (48 + 8 + i) 0 = _ := m0
  have m6 : M (48 + 8 + i) 6 = _ := m6
  rw [if_pos (ixb_t h24 (by omega)), ix_nI (by omega), r, m0, fd0 h24]
  simp only [Option.bind_some]
  obtain ⟨r1, e1, g1, -⟩ := isUnder_eq ok.1 6 M
  rw [e1]
  simp only [Option.bind_some]
  have hu : isUS (N 1 (120 + 7 * i)) 6 ↔ N 1 (120 + 7 * i) = 6 := by
    unfold isUS
    simp
  by_cases h6 : N 1 (120 + 7 * i) = 6
  · rw [if_neg (fun q => (g1.mp q) (hu.mpr h6)), if_pos h6, m6, markAt_eq]
    simp only [Option.bind_some]
    rw [show nI (120 + 7 * i) + 6 = nI (120 + 7 * i + 6) from by rw [i_lit, nI_add], becomes_eq (by omega)]
    simp only [Option.bind_some, orNone_eq]
    refine ⟨_, mset M (48 + 8 + i) 6 (uc x2), _, ?_, rfl, h.set1 (by omega) (h.1.setM hv hi (Or.inr rfl) (by simp; omega)) (by omega)⟩
    rw [show uc x2 = x2 from by unfold uc; rw [if_pos (by rw [i_le, i_0]; exact hk.1)]]
  · rw [if_pos (g1.mpr (fun q => h6 (hu.mp q))), if_neg h6]
    exact ⟨_, M, N, rfl, rfl, h⟩
theorem q_of {M N : Mem} (h : Rel M N) (x1 x2 : Int32) : Eqv (f_X9_of x1 x2 M) (f_X10_of x1 x2 N) := by
  obtain ⟨n, t, hv⟩ := RV.of (Or.inl rfl) h.1
  have hs := hv.sv
  have ht := hs.2.2.2.2.1
  unfold f_X9_of f_X9_of_b0 f_X10_of f_X10_of_b0
  rw [hv.2.2.2.1, isBelowN x1 (nI t) t (nI_toInt (by omega)), isText_eq hs.2.2.2.1 (by omega)]
  simp only [Option.bind_some, b2i_eq0]
  by_cases hc : 0 ≤ x1.toInt ∧ x1.toInt < (t : Int)
  rotate_left
  · rw [if_pos hc, if_pos hc]
    exact ⟨_, M, N, rfl, rfl, h⟩
  rw [if_neg (nn hc), if_neg (nn hc), isInN x2 0 2 0 2 (by decide) (by decide)]
  simp only [Option.bind_some, b2i_eq0]
  obtain ⟨j, hj, rfl⟩ := i_of hc.1 hc.2
  have h14 : j < 14 := by omega
  obtain ⟨r1, -⟩ := rf_tx j h14
  obtain ⟨-, e0, e1, e2, -⟩ := hv.2.2.2.2.1.2.2 j hj
  have e0 : M (19 + 2 * j) 0 = _ := e0
  have e1 : M (19 + 2 * j) 1 = _ := e1
  have e2 : M (19 + 2 * j) 2 = _ := e2
  rw [if_pos (ixb_t h14 (by omega)), ix_nI (by omega), r1, textAt_eq]
  simp only [Option.bind_some]
  rw [if_pos (ixb_t (show 290 + 200 * j < 3300 by omega) (by omega)), ix_nI (by omega), textAt_eq]
  simp only [Option.bind_some]
  rw [nI_1, if_pos (ixb_t (show 290 + 200 * j + 1 < 3300 by omega) (by omega)), ix_nI (by omega), e0, e1, e2]
  by_cases c0 : x2 = 0
  · rw [if_pos c0, if_neg (nn (show 0 ≤ x2.toInt ∧ x2.toInt ≤ 2 by rw [c0]; decide)), if_pos c0]
    exact ⟨_, M, N, rfl, rfl, h⟩
  rw [if_neg c0]
  by_cases c1 : x2 = 1
  · rw [if_pos c1, if_neg (nn (show 0 ≤ x2.toInt ∧ x2.toInt ≤ 2 by rw [c1]; decide)), if_neg c0, if_pos c1]
    exact ⟨_, M, N, rfl, rfl, h⟩
  rw [if_neg c1]
  by_cases c2 : x2 = 2
  · rw [if_pos c2, if_neg (nn (show 0 ≤ x2.toInt ∧ x2.toInt ≤ 2 by rw [c2]; decide)), if_neg c0, if_neg c1]
    exact ⟨_, M, N, rfl, rfl, h⟩
  rw [if_neg c2, if_pos (show ¬ (0 ≤ x2.toInt ∧ x2.toInt ≤ 2) from ?_)]
  · exact ⟨_, M, N, rfl, rfl, h⟩
  · intro q
    obtain ⟨k, hk, e⟩ := i_of (n := 3) q.1 (by omega)
    rcases (show k = 0 ∨ k = 1 ∨ k = 2 by omega) with rfl | rfl | rfl
    · exact c0 e
    · exact c1 e
    · exact c2 e
theorem q_why {M N : Mem} (h : Rel M N) (x1 x2 : Int32) : Eqv (f_X9_why x1 x2 M) (f_X10_why x1 x2 N) := by
  obtain ⟨n, t, hv⟩ := RV.of (Or.inl rfl) h.1
  have hs := hv.sv
  have ht := hs.2.2.2.2.1
  unfold f_X9_why f_X9_why_b0 f_X10_why f_X10_why_b0
  rw [isBelowN x1 3 3 (by decide), isVoyage_eq]
  simp only [Option.bind_some, b2i_eq0]
  by_cases hc : 0 ≤ x1.toInt ∧ x1.toInt < 3
  rotate_left
  · rw [if_pos hc, if_pos hc]
    exact ⟨_, M, N, rfl, rfl, h⟩
  rw [if_neg (nn hc), if_neg (nn hc), isBelowN x2 3 3 (by decide), isInN x2 0 2 0 2 (by decide) (by decide)]
  simp only [Option.bind_some, b2i_eq0]
  by_cases hk : 0 ≤ x2.toInt ∧ x2.toInt < 3
  rotate_left
  · rw [if_pos hk, if_pos (show ¬ (0 ≤ x2.toInt ∧ x2.toInt ≤ 2) by omega)]
    exact ⟨_, M, N, rfl, rfl, h⟩
  rw [if_neg (nn hk), if_neg (nn (show 0 ≤ x2.toInt ∧ x2.toInt ≤ 2 by omega))]
  obtain ⟨v, hv3, rfl⟩ := i_of (n := 3) hc.1 hc.2
  obtain ⟨k, hk3, rfl⟩ := i_of (n := 3) hk.1 hk.2
  rw [textFor_eq (Or.inl rfl) hv.2.2.2.1 hv.2.2.2.2.1 hv3 hk3, counts_eq hs.2.2.2.1 ht hv3 hk3]
  simp only [Option.bind_some, orNone_eq]
  cases hl : lastT (N 1) (nI (3 * k + v)) t with
  | none => exact ⟨_, M, N, rfl, rfl, h⟩
  | some j =>
    obtain ⟨hj, -⟩ := lastT_lt hl
    refine ⟨_, M, N, rfl, ?_, h⟩
    simp only []
    rw [show uc (nI j) = nI j from by unfold uc; rw [if_pos (nI_pos' (by omega))]]
