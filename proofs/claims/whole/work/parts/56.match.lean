/-! MATCH, JOIN -/
def DS (S : Row) (x y : Nat) : Int32 := if spanS S x + spanS S y < iabs (saysS S x - saysS S y) then (-1 : Int32) else iabs (saysS S x - saysS S y)
theorem iabs_bd {x : Int32} (h : -10000 ≤ x.toInt ∧ x.toInt ≤ 10000) : 0 ≤ (iabs x).toInt := by
  unfold iabs
  by_cases q : 0 ≤ x
  · rw [if_pos q]
    rw [i_le, i_0] at q
    exact q
  · rw [if_neg q]
    rw [i_le, i_0] at q
    rw [i_sub (by rw [i_0]; omega) (by rw [i_0]; omega), i_0]
    omega
theorem DS_bd {S : Row} {x y : Nat} (hx : MkOk S x) (hy : MkOk S y) : -1 ≤ (DS S x y).toInt ∧ (¬ DS S x y = -1 → uc (DS S x y) = DS S x y) := by
  have a := says_bd hx
  have b := says_bd hy
  have c : 0 ≤ (iabs (saysS S x - saysS S y)).toInt := iabs_bd (by rw [i_sub (by omega) (by omega)]; omega)
  unfold DS
  split
  · exact ⟨by decide, fun h => absurd rfl h⟩
  · refine ⟨by omega, fun _ => ?_⟩
    unfold uc
    rw [if_pos (by rw [i_le, i_0]; exact c)]
theorem uc_DS {S : Row} {x y : Nat} (hx : MkOk S x) (hy : MkOk S y) : uc (DS S x y) = if spanS S x + spanS S y < iabs (saysS S x - saysS S y) then (-1000000005 : Int32) else iabs (saysS S x - saysS S y) := by
  have a := says_bd hx
  have b := says_bd hy
  have c : 0 ≤ (iabs (saysS S x - saysS S y)).toInt := iabs_bd (by rw [i_sub (by omega) (by omega)]; omega)
  unfold DS
  split
  · decide
  · unfold uc
    rw [if_pos (by rw [i_le, i_0]; exact c)]
theorem e5c {v p : Nat} : nI v * (5 : Int32) + nI p = nI (5 * v + p) := by rw [i_lit, nI_mul, nI_add, Nat.mul_comm]
theorem e5m {v p : Nat} : (5 : Int32) * nI v + nI p = nI (5 * v + p) := by rw [i_lit, nI_mul, nI_add]
theorem choM_eq {M : Mem} {v p g : Nat} (hv : v < 3) (hp : p < 5) (hg : g < 24) (e : M 50 (5 * v + p) = nI g) : f_X0_chosenMark 48 (nI v) (nI p) M = some (48 + 8 + g, M) := by
  obtain ⟨r0, -, -, r3, -⟩ := rf_co 48 (Or.inl rfl)
  unfold f_X0_chosenMark f_X0_chosenMark_b0
  rw [e5c, if_pos (ixb_t (show 5 * v + p < 15 by omega) (by omega)), ix_nI (by omega), r3, show 48 + 2 = 50 from rfl, e, if_pos (ixb_t hg (by omega)), ix_nI (by omega), r0, rf_mk (Or.inl rfl) hg]
theorem findC_eq {M : Mem} {S : Row} {n t a b ca cb : Nat} {ga gb : Nat → Nat} (hv : RV M S 48 n t) (ha : a < 3) (hb : b < 3) (ea : M 51 a = nI ca) (eb : M 51 b = nI cb) (hca : ca ≤ 5) (hcb : cb ≤ 5) (hga : ∀ p, p < ca → ga p < n ∧ M 50 (5 * a + p) = nI (ga p)) (hgb : ∀ p, p < cb → gb p < n ∧ M 50 (5 * b + p) = nI (gb p)) : ∃ M', f_X3_find 48 (nI a) (nI b) M = f_X3_find_b131 48 (nI b) M' ∧ (∀ x, x ≠ 5 → x ≠ 7 → x ≠ 47 → M' x = M x) ∧ M' 5 3 = nI ca ∧ M' 5 4 = nI cb ∧ ∀ i j, i < ca → j < cb → M' 7 (5 * i + j) = uc (DS S (ga i) (gb j)) := by
  have hn := hv.sv.2.1
  obtain ⟨-, -, -, -, r4, -⟩ := rf_co 48 (Or.inl rfl)
  have inner : ∀ (K : Nat → Int32 → Int32 → Int32 → Mem → Option (Int32 × Mem)) (i : Nat), i < ca → ∀ (r fuel j : Nat) (M1 : Mem), j + r = cb → r < fuel → (∀ x, x ≠ 5 → x ≠ 7 → x ≠ 47 → M1 x = M x) → M1 5 3 = nI ca → M1 5 4 = nI cb → (∀ i' j', i' < i → j' < cb → M1 7 (5 * i' + j') = uc (DS S (ga i') (gb j'))) → (∀ j', j' < j → M1 7 (5 * i + j') = uc (DS S (ga i) (gb j'))) → ∃ M2, f_X3_find_b52 K fuel 48 (nI a) (nI b) (nI i) (48 + 8 + ga i) (saysS S (ga i)) (nI j) M1 = K 48 (nI a) (nI b) (nI (i + 1)) M2 ∧ (∀ x, x ≠ 5 → x ≠ 7 → x ≠ 47 → M2 x = M x) ∧ M2 5 3 = nI ca ∧ M2 5 4 = nI cb ∧ ∀ i' j', i' < i + 1 → j' < cb → M2 7 (5 * i' + j') = uc (DS S (ga i') (gb j')) := by
    intro K i hi r
    induction r with
    | zero =>
      intro fuel j M1 hj hf g1 g2 g3 g4 g5
      obtain ⟨f, rfl⟩ : ∃ f, fuel = f + 1 := ⟨fuel - 1, by omega⟩
      have : j = cb := by omega
      subst this
      rw [f_X3_find_b52, g3, if_pos (nI_le (Nat.le_refl _) (by omega)), f_X3_find_b125, nI_1]
      refine ⟨M1, rfl, g1, g2, g3, fun i' j' y1 y2 => ?_⟩
      by_cases z : i' = i
      · subst z; exact g5 j' y2
      · exact g4 i' j' (by omega) y2
    | succ r ih =>
      intro fuel j M1 hj hf g1 g2 g3 g4 g5
      obtain ⟨f, rfl⟩ : ∃ f, fuel = f + 1 := ⟨fuel - 1, by omega⟩
      obtain ⟨b1, b2⟩ := hgb j (by omega)
      obtain ⟨a1, -⟩ := hga i hi
      have hv1 : RV M1 S 48 n t := hv.cg (fun x hx => g1 x (by omega) (by omega) (by omega))
      obtain ⟨M2, s1, s2⟩ := saysC hv1 b1
      have hv2 : RV M2 S 48 n t := hv1.cg (SC.of47 s2)
      have p1 := spanC (M := M2) (hv2.2.2.1.2.2 (ga i) a1).2
      have p2 := spanC (M := M2) (hv2.2.2.1.2.2 (gb j) b1).2
      have okA := (hv2.2.2.1.2.2 (ga i) a1).1
      have okB := (hv2.2.2.1.2.2 (gb j) b1).1
      have b118 : ∃ M3, f_X3_find_b118 K (f_X3_find_b52 K f) 48 (nI a) (nI b) (nI i) (48 + 8 + ga i) (saysS S (ga i)) (nI j) (uc (DS S (ga i) (gb j))) (nI (5 * i + j)) M2 = K 48 (nI a) (nI b) (nI (i + 1)) M3 ∧ (∀ x, x ≠ 5 → x ≠ 7 → x ≠ 47 → M3 x = M x) ∧ M3 5 3 = nI ca ∧ M3 5 4 = nI cb ∧ ∀ i' j', i' < i + 1 → j' < cb → M3 7 (5 * i' + j') = uc (DS S (ga i') (gb j')) := by
        rw [f_X3_find_b118, if_pos (ixb_t (show 5 * i + j < 25 by omega) (by omega)), ix_nI (by omega), nI_1]
        refine ih f (j + 1) _ (by omega) (by omega) (fun x y1 y2 y3 => by rw [mset_ne y2, s2 x y3]; exact g1 x y1 y2 y3) (by rw [mset_ne (by omega), s2 5 (by omega)]; exact g2) (by rw [mset_ne (by omega), s2 5 (by omega)]; exact g3) (fun i' j' y1 y2 => by rw [mset_k (by omega), s2 7 (by omega)]; exact g4 i' j' y1 y2) (fun j' y => ?_)
        by_cases z : j' = j
        · subst z; rw [mset_at]
        · rw [mset_k (by omega), s2 7 (by omega)]; exact g5 j' (by omega)
      rw [f_X3_find_b52, g3, if_neg (nI_ge (by omega) (by omega)), choM_eq (g := gb j) hb (by omega) (by omega) (by rw [g1 50 (by omega) (by omega) (by omega)]; exact b2)]
      simp only [Option.bind_some]
      rw [s1]
      simp only [Option.bind_some]
      rw [p1]
      simp only [Option.bind_some]
      rw [p2]
      simp only [Option.bind_some]
      rw [e5c]
      rw [uc_DS okA okB] at b118
      by_cases z : spanS S (ga i) + spanS S (gb j) < iabs (saysS S (ga i) - saysS S (gb j))
      · rw [if_pos z] at b118 ⊢
        exact b118
      · rw [if_neg z] at b118 ⊢
        exact b118
  have outer : ∀ (r fuel i : Nat) (M1 : Mem), i + r = ca → r < fuel → (∀ x, x ≠ 5 → x ≠ 7 → x ≠ 47 → M1 x = M x) → M1 5 3 = nI ca → M1 5 4 = nI cb → (∀ i' j', i' < i → j' < cb → M1 7 (5 * i' + j') = uc (DS S (ga i') (gb j'))) → ∃ M', f_X3_find_b23 fuel 48 (nI a) (nI b) (nI i) M1 = f_X3_find_b131 48 (nI b) M' ∧ (∀ x, x ≠ 5 → x ≠ 7 → x ≠ 47 → M' x = M x) ∧ M' 5 3 = nI ca ∧ M' 5 4 = nI cb ∧ ∀ i j, i < ca → j < cb → M' 7 (5 * i + j) = uc (DS S (ga i) (gb j)) := by
    intro r
    induction r with
    | zero =>
      intro fuel i M1 hi hf g1 g2 g3 g4
      obtain ⟨f, rfl⟩ : ∃ f, fuel = f + 1 := ⟨fuel - 1, by omega⟩
      have : i = ca := by omega
      subst this
      rw [f_X3_find_b23, g2, if_pos (nI_le (Nat.le_refl _) (by omega))]
      exact ⟨M1, rfl, g1, g2, g3, g4⟩
    | succ r ih =>
      intro fuel i M1 hi hf g1 g2 g3 g4
      obtain ⟨f, rfl⟩ : ∃ f, fuel = f + 1 := ⟨fuel - 1, by omega⟩
      obtain ⟨a1, a2⟩ := hga i (by omega)
      have hv1 : RV M1 S 48 n t := hv.cg (fun x hx => g1 x (by omega) (by omega) (by omega))
      obtain ⟨M2, s1, s2⟩ := saysC hv1 a1
      obtain ⟨M3, e, c1, c2, c3, c4⟩ := inner (f_X3_find_b23 f) i (by omega) cb FU 0 M2 (by omega) (by unfold FU; omega) (fun x y1 y2 y3 => by rw [s2 x y3]; exact g1 x y1 y2 y3) (by rw [s2 5 (by omega)]; exact g2) (by rw [s2 5 (by omega)]; exact g3) (fun i' j' y1 y2 => by rw [s2 7 (by omega)]; exact g4 i' j' y1 y2) (fun j' y => by omega)
      have e : f_X3_find_b52 (f_X3_find_b23 f) FU 48 (nI a) (nI b) (nI i) (48 + 8 + ga i) (saysS S (ga i)) 0 M2 = _ := e
      rw [f_X3_find_b23, g2, if_neg (nI_ge (by omega) (by omega)), choM_eq (g := ga i) ha (by omega) (by omega) (by rw [g1 50 (by omega) (by omega) (by omega)]; exact a2)]
      simp only [Option.bind_some]
      rw [s1]
      simp only [Option.bind_some]
      rw [e]
      exact ih f (i + 1) M3 (by omega) (by omega) c1 c2 c3 c4
  rw [f_X3_find, f_X3_find_b0, if_pos (ixb_t ha (by omega)), if_pos (ixb_t hb (by omega)), ix_nI (by omega), ix_nI (by omega), r4, show 48 + 3 = 51 from rfl, mset_ne (show (51 : Nat) ≠ 5 by omega), ea, eb]
  exact outer ca FU 0 _ (by omega) (by unfold FU; omega) (fun x y1 _ _ => by rw [mset_ne y1, mset_ne y1]) (by rw [mset_k (by omega), mset_at]) (by rw [mset_at]) (fun i' j' y => by omega)
theorem findM_eq {N : Mem} {n t a b ca cb : Nat} {ga gb : Nat → Nat} (hs : SV (N 1) n t) (hca : ca ≤ 5) (hcb : cb ≤ 5) (ta : ∀ N' : Mem, N' 1 = N 1 → f_X10_toldOf (nI a) N' = some (nI ca, N')) (tb : ∀ N' : Mem, N' 1 = N 1 → f_X10_toldOf (nI b) N' = some (nI cb, N')) (hga : ∀ p, p < ca → ga p < n ∧ ∀ N' : Mem, N' 1 = N 1 → f_X10_toldMark (nI a) (nI p) N' = some (nI (ga p), N')) (hgb : ∀ p, p < cb → gb p < n ∧ ∀ N' : Mem, N' 1 = N 1 → f_X10_toldMark (nI b) (nI p) N' = some (nI (gb p), N')) : ∃ N', f_X10_findMatch (nI a) (nI b) N = f_X10_findMatch_b122 N' ∧ (∀ x, x ≠ 0 → x ≠ 13 → x ≠ 14 → x ≠ 15 → N' x = N x) ∧ (∀ k, k ≠ 32 → k ≠ 33 → N' 0 k = N 0 k) ∧ N' 0 32 = nI ca ∧ N' 0 33 = nI cb ∧ ∀ i j, i < ca → j < cb → N' 15 (5 * i + j) = DS (N 1) (ga i) (gb j) := by
  have hn := hs.2.1
  have inner : ∀ (K : Int32 → Int32 → Int32 → Mem → Option (Int32 × Mem)) (i : Nat), i < ca → ∀ (r fuel j : Nat) (N1 : Mem), j + r = cb → r < fuel → (∀ x, x ≠ 0 → x ≠ 13 → x ≠ 14 → x ≠ 15 → N1 x = N x) → (∀ k, k ≠ 32 → k ≠ 33 → N1 0 k = N 0 k) → N1 0 32 = nI ca → N1 0 33 = nI cb → (∀ i' j', i' < i → j' < cb → N1 15 (5 * i' + j') = DS (N 1) (ga i') (gb j')) → (∀ j', j' < j → N1 15 (5 * i + j') = DS (N 1) (ga i) (gb j')) → ∃ N2, f_X10_findMatch_b31 K fuel (nI a) (nI b) (nI i) (nI j) N1 = K (nI a) (nI b) (nI (i + 1)) N2 ∧ (∀ x, x ≠ 0 → x ≠ 13 → x ≠ 14 → x ≠ 15 → N2 x = N x) ∧ (∀ k, k ≠ 32 → k ≠ 33 → N2 0 k = N 0 k) ∧ N2 0 32 = nI ca ∧ N2 0 33 = nI cb ∧ ∀ i' j', i' < i + 1 → j' < cb → N2 15 (5 * i' + j') = DS (N 1) (ga i') (gb j') := by
    intro K i hi r
    induction r with
    | zero =>
      intro fuel j N1 hj hf g1 g0 g2 g3 g4 g5
      obtain ⟨f, rfl⟩ : ∃ f, fuel = f + 1 := ⟨fuel - 1, by omega⟩
      have : j = cb := by omega
      subst this
      rw [f_X10_findMatch_b31, g3, if_pos (nI_le (Nat.le_refl _) (by omega)), f_X10_findMatch_b116, nI_1]
      refine ⟨N1, rfl, g1, g0, g2, g3, fun i' j' y1 y2 => ?_⟩
      by_cases z : i' = i
      · subst z; exact g5 j' y2
      · exact g4 i' j' (by omega) y2
    | succ r ih =>
      intro fuel j N1 hj hf g1 g0 g2 g3 g4 g5
      obtain ⟨f, rfl⟩ : ∃ f, fuel = f + 1 := ⟨fuel - 1, by omega⟩
      obtain ⟨b1, b2⟩ := hgb j (by omega)
      obtain ⟨a1, a2⟩ := hga i hi
      have e1 : N1 1 = N 1 := g1 1 (by omega) (by omega) (by omega) (by omega)
      obtain ⟨N2, s1, s2⟩ := saysM (N := N1) (by rw [e1]; exact hs) a1
      have e2 : N2 1 = N 1 := by rw [s2 1 (by omega) (by omega), e1]
      obtain ⟨N3, u1, u2⟩ := saysM (N := N2) (by rw [e2]; exact hs) b1
      have e3 : N3 1 = N 1 := by rw [u2 1 (by omega) (by omega), e2]
      have fr : ∀ x, x ≠ 13 → x ≠ 14 → N3 x = N1 x := fun x y1 y2 => by rw [u2 x y1 y2, s2 x y1 y2]
      rw [e1] at s1
      rw [e2] at u1
      have b109 : ∃ N4, f_X10_findMatch_b109 K (f_X10_findMatch_b31 K f) (nI a) (nI b) (nI i) (nI j) (DS (N 1) (ga i) (gb j)) (nI (5 * i + j)) N3 = K (nI a) (nI b) (nI (i + 1)) N4 ∧ (∀ x, x ≠ 0 → x ≠ 13 → x ≠ 14 → x ≠ 15 → N4 x = N x) ∧ (∀ k, k ≠ 32 → k ≠ 33 → N4 0 k = N 0 k) ∧ N4 0 32 = nI ca ∧ N4 0 33 = nI cb ∧ ∀ i' j', i' < i + 1 → j' < cb → N4 15 (5 * i' + j') = DS (N 1) (ga i') (gb j') := by
        rw [f_X10_findMatch_b109, if_pos (ixb_t (show 5 * i + j < 25 by omega) (by omega)), ix_nI (by omega), nI_1]
        refine ih f (j + 1) _ (by omega) (by omega) (fun x y0 y1 y2 y3 => by rw [mset_ne y3, fr x y1 y2]; exact g1 x y0 y1 y2 y3) (fun k y1 y2 => by rw [mset_ne (by omega), fr 0 (by omega) (by omega)]; exact g0 k y1 y2) (by rw [mset_ne (by omega), fr 0 (by omega) (by omega)]; exact g2) (by rw [mset_ne (by omega), fr 0 (by omega) (by omega)]; exact g3) (fun i' j' y1 y2 => by rw [mset_k (by omega), fr 15 (by omega) (by omega)]; exact g4 i' j' y1 y2) (fun j' y => ?_)
        by_cases z : j' = j
        · subst z; rw [mset_at]
        · rw [mset_k (by omega), fr 15 (by omega) (by omega)]; exact g5 j' (by omega)
      rw [f_X10_findMatch_b31, g3, if_neg (nI_ge (by omega) (by omega)), a2 N1 e1]
      simp only [Option.bind_some]
      rw [b2 N1 e1]
      simp only [Option.bind_some]
      rw [s1]
      simp only [Option.bind_some]
      rw [u1]
      simp only [Option.bind_some]
      rw [size_eq]
      simp only [Option.bind_some]
      rw [spanM (show ga i < 24 by omega), e3]
      simp only [Option.bind_some]
      rw [spanM (show gb j < 24 by omega), e3]
      simp only [Option.bind_some]
      rw [e5m]
      unfold DS at b109
      by_cases z : spanS (N 1) (ga i) + spanS (N 1) (gb j) < iabs (saysS (N 1) (ga i) - saysS (N 1) (gb j))
      · rw [if_pos z] at b109 ⊢
        exact b109
      · rw [if_neg z] at b109 ⊢
        exact b109
  have outer : ∀ (r fuel i : Nat) (N1 : Mem), i + r = ca → r < fuel → (∀ x, x ≠ 0 → x ≠ 13 → x ≠ 14 → x ≠ 15 → N1 x = N x) → (∀ k, k ≠ 32 → k ≠ 33 → N1 0 k = N 0 k) → N1 0 32 = nI ca → N1 0 33 = nI cb → (∀ i' j', i' < i → j' < cb → N1 15 (5 * i' + j') = DS (N 1) (ga i') (gb j')) → ∃ N', f_X10_findMatch_b20 fuel (nI a) (nI b) (nI i) N1 = f_X10_findMatch_b122 N' ∧ (∀ x, x ≠ 0 → x ≠ 13 → x ≠ 14 → x ≠ 15 → N' x = N x) ∧ (∀ k, k ≠ 32 → k ≠ 33 → N' 0 k = N 0 k) ∧ N' 0 32 = nI ca ∧ N' 0 33 = nI cb ∧ ∀ i j, i < ca → j < cb → N' 15 (5 * i + j) = DS (N 1) (ga i) (gb j) := by
    intro r
    induction r with
    | zero =>
      intro fuel i N1 hi hf g1 g0 g2 g3 g4
      obtain ⟨f, rfl⟩ : ∃ f, fuel = f + 1 := ⟨fuel - 1, by omega⟩
      have : i = ca := by omega
      subst this
      rw [f_X10_findMatch_b20, g2, if_pos (nI_le (Nat.le_refl _) (by omega))]
      exact ⟨N1, rfl, g1, g0, g2, g3, g4⟩
    | succ r ih =>
      intro fuel i N1 hi hf g1 g0 g2 g3 g4
      obtain ⟨f, rfl⟩ : ∃ f, fuel = f + 1 := ⟨fuel - 1, by omega⟩
      obtain ⟨N3, e, c1, c0, c2, c3, c4⟩ := inner (f_X10_findMatch_b20 f) i (by omega) cb FU 0 N1 (by omega) (by unfold FU; omega) g1 g0 g2 g3 g4 (fun j' y => by omega)
      have e : f_X10_findMatch_b31 (f_X10_findMatch_b20 f) FU (nI a) (nI b) (nI i) 0 N1 = _ := e
      rw [f_X10_findMatch_b20, g2, if_neg (nI_ge (by omega) (by omega)), e]
      exact ih f (i + 1) N3 (by omega) (by omega) c1 c0 c2 c3 c4
  rw [f_X10_findMatch, f_X10_findMatch_b0, ta N rfl]
  simp only [Option.bind_some]
  rw [tb _ (mset_ne (by omega))]
  simp only [Option.bind_some]
  exact outer ca FU 0 _ (by omega) (by unfold FU; omega) (fun x y _ _ _ => by rw [mset_ne y, mset_ne y]) (fun k y1 y2 => by rw [mset_k y2, mset_k y1]) (by rw [mset_k (by omega), mset_at]) (by rw [mset_at]) (fun i' j' y => by omega)
/-- both find the match, alike -/
theorem match_both {M N : Mem} (h : Rel M N) {a b : Nat} (ha : a < 3) (hb : b < 3) : ∃ M' N' ca cb, f_X3_find 48 (nI a) (nI b) M = some (0, M') ∧ f_X10_findMatch (nI a) (nI b) N = some (0, N') ∧ Rel M' N' ∧ M 51 a = nI ca ∧ ca ≤ 5 ∧ cb ≤ 5 ∧ f_X10_toldOf (nI a) N = some (nI ca, N) ∧ (∀ x, 14 ≤ x → x ≠ 47 → M' x = M x) ∧ N' 1 = N 1 ∧ N' 0 32 = nI ca ∧ M' 5 0 = N' 0 36 ∧ M' 5 1 = N' 0 37 ∧ (∀ p, p < ca → ∃ g, g < 24 ∧ M 50 (5 * a + p) = nI g) ∧ (∀ p, p < cb → ∃ g, g < 24 ∧ M 50 (5 * b + p) = nI g) ∧ M 51 b = nI cb ∧ ∀ k, k < ca → (N' 17 k = -1 ∧ M' 6 k = (-1000000005 : Int32)) ∨ ∃ p, p < cb ∧ N' 17 k = nI p ∧ M' 6 k = M 50 (5 * b + p) := by
  obtain ⟨n, t, hv⟩ := RV.of (Or.inl rfl) h.1
  have hs := hv.sv
  have hn := hs.2.1
  obtain ⟨⟨n', p1, p2, nc, cs, hc⟩, -⟩ := id h.1
  have hnn : n' = n := (nI_eq (by have := p2.1; omega) (by omega)).mp (p1.symm.trans hv.2.1)
  subst hnn
  obtain ⟨ca, hca, ea, ta, ka⟩ := told_S hn hs.2.2.1 hc ha
  obtain ⟨cb, hcb, eb, tb, kb⟩ := told_S hn hs.2.2.1 hc hb
  have ea : M 51 a = nI ca := ea
  have eb : M 51 b = nI cb := eb
  let ga : Nat → Nat := fun p => ix (M 50 (5 * a + p))
  let gb : Nat → Nat := fun p => ix (M 50 (5 * b + p))
  have hga : ∀ p, p < ca → ga p < n' ∧ M 50 (5 * a + p) = nI (ga p) ∧ ∀ N' : Mem, N' 1 = N 1 → f_X10_toldMark (nI a) (nI p) N' = some (nI (ga p), N') := fun p hp => by
    obtain ⟨g, g1, g2, g3⟩ := ka p hp
    have g2 : M 50 (5 * a + p) = nI g := g2
    have : ga p = g := by show ix (M 50 (5 * a + p)) = g; rw [g2, ix_nI (by omega)]
    rw [this]
    exact ⟨g1, g2, g3⟩
  have hgb : ∀ p, p < cb → gb p < n' ∧ M 50 (5 * b + p) = nI (gb p) ∧ ∀ N' : Mem, N' 1 = N 1 → f_X10_toldMark (nI b) (nI p) N' = some (nI (gb p), N') := fun p hp => by
    obtain ⟨g, g1, g2, g3⟩ := kb p hp
    have g2 : M 50 (5 * b + p) = nI g := g2
    have : gb p = g := by show ix (M 50 (5 * b + p)) = g; rw [g2, ix_nI (by omega)]
    rw [this]
    exact ⟨g1, g2, g3⟩
  obtain ⟨M1, e1, a1, a2, a3, a4⟩ := findC_eq hv ha hb ea eb hca hcb (fun p hp => ⟨(hga p hp).1, (hga p hp).2.1⟩) (fun p hp => ⟨(hgb p hp).1, (hgb p hp).2.1⟩)
  obtain ⟨N1, e2, b1, b0, b2, b3, b4⟩ := findM_eq hs hca hcb ta tb (fun p hp => ⟨(hga p hp).1, (hga p hp).2.2⟩) (fun p hp => ⟨(hgb p hp).1, (hgb p hp).2.2⟩)
  have T : TR ca cb 0 (mset (mset M1 5 0 (-1)) 5 1 0) (mset (mset N1 0 36 (-1)) 0 37 0) := by
    refine ⟨by rw [mset_k (by omega), mset_k (by omega)]; exact a2, by rw [mset_k (by omega), mset_k (by omega)]; exact a3, by rw [mset_k (by omega), mset_k (by omega)]; exact b2, by rw [mset_k (by omega), mset_k (by omega)]; exact b3, by rw [mset_k (by omega), mset_at, mset_k (by omega), mset_at], by rw [mset_at, mset_at], by rw [mset_k (by omega), mset_at]; decide, fun i j hi hj => ?_, fun y => ?_, fun k hk => by omega⟩
    · rw [mset_ne (by omega), mset_ne (by omega), mset_ne (by omega), mset_ne (by omega), a4 i j hi hj, b4 i j hi hj]
      exact ⟨rfl, (DS_bd (hs.2.2.1 _ (hga i hi).1) (hs.2.2.1 _ (hgb j hj).1)).1⟩
    · rw [mset_k (by omega), mset_at] at y
      exact absurd y (by decide)
  obtain ⟨M2, N2, c1, c2, c3, c4, c5, c6⟩ := at_eq hca hcb ca FR FR 0 0 0 0 _ _ (by omega) (by unfold FR; omega) (by unfold FR; omega) (by omega) T
  have c1 : f_X3_attempt FR 0 0 0 0 (mset (mset M1 5 0 (-1)) 5 1 0) = some (0, M2) := c1
  have c2 : f_X10_tries FR 0 0 0 0 (mset (mset N1 0 36 (-1)) 0 37 0) = some (0, N2) := c2
  obtain ⟨t1, t2, t3, t4, t5, t6, t7, t8, t9, -⟩ := c3
  have t9 := t9 (by omega)
  obtain ⟨-, -, -, r3, -⟩ := rf_co 48 (Or.inl rfl)
  have fC : ∀ x, x ≠ 5 → x ≠ 6 → x ≠ 7 → x ≠ 8 → x ≠ 47 → M2 x = M x := fun x y1 y2 y3 y4 y5 => by rw [c4 x y1 y2 y4, mset_ne y1, mset_ne y1]; exact a1 x y1 y3 y5
  have lp : ∀ (r fuel k : Nat) (M3 : Mem), k + r = ca → r < fuel → (∀ x, x ≠ 6 → M3 x = M2 x) → (∀ k', k ≤ k' → M3 6 k' = M2 6 k') → (∀ k', k' < k → (N2 17 k' = -1 ∧ M3 6 k' = (-1000000005 : Int32)) ∨ ∃ p, p < cb ∧ N2 17 k' = nI p ∧ M3 6 k' = M 50 (5 * b + p)) → ∃ M', f_X3_find_b152 fuel 48 (nI b) (nI k) M3 = some (0, M') ∧ (∀ x, x ≠ 6 → M' x = M2 x) ∧ ∀ k', k' < ca → (N2 17 k' = -1 ∧ M' 6 k' = (-1000000005 : Int32)) ∨ ∃ p, p < cb ∧ N2 17 k' = nI p ∧ M' 6 k' = M 50 (5 * b + p) := by
    intro r
    induction r with
    | zero =>
      intro fuel k M3 hk hf g1 g2 g3
      obtain ⟨f, rfl⟩ : ∃ f, fuel = f + 1 := ⟨fuel - 1, by omega⟩
      have : k = ca := by omega
      subst this
      rw [f_X3_find_b152, g1 5 (by omega), t1, if_pos (nI_le (Nat.le_refl _) (by omega))]
      exact ⟨M3, rfl, g1, g3⟩
    | succ r ih =>
      intro fuel k M3 hk hf g1 g2 g3
      obtain ⟨f, rfl⟩ : ∃ f, fuel = f + 1 := ⟨fuel - 1, by omega⟩
      have i5 : ixb (nI k) 5 = true := ixb_t (by omega) (by omega)
      obtain ⟨u1, u2, u3⟩ := t9 k (by omega)
      have next : ∀ v : Int32, ((N2 17 k = -1 ∧ v = (-1000000005 : Int32)) ∨ ∃ p, p < cb ∧ N2 17 k = nI p ∧ v = M 50 (5 * b + p)) → ∃ M', f_X3_find_b200 (f_X3_find_b152 f) 48 (nI b) (nI k) v (nI k) M3 = some (0, M') ∧ (∀ x, x ≠ 6 → M' x = M2 x) ∧ ∀ k', k' < ca → (N2 17 k' = -1 ∧ M' 6 k' = (-1000000005 : Int32)) ∨ ∃ p, p < cb ∧ N2 17 k' = nI p ∧ M' 6 k' = M 50 (5 * b + p) := by
        intro v hvv
        rw [f_X3_find_b200, if_pos i5, ix_nI (by omega), nI_1]
        refine ih f (k + 1) _ (by omega) (by omega) (fun x hx => by rw [mset_ne hx]; exact g1 x hx) (fun k' y => by rw [mset_k (by omega)]; exact g2 k' (by omega)) (fun k' y => ?_)
        by_cases z : k' = k
        · subst z
          rw [mset_at]
          exact hvv
        · rw [mset_k z]
          exact g3 k' (by omega)
      rw [f_X3_find_b152, g1 5 (by omega), t1, if_neg (nI_ge (by omega) (by omega))]
      simp only [i5, if_true]
      rw [ix_nI (show k < 2 ^ 31 by omega), g2 k (by omega), u1]
      by_cases z : N2 17 k < 0
      · rw [if_pos ((uc_none u2).mpr z)]
        refine next _ (Or.inl ⟨?_, rfl⟩)
        rw [i_eq, show (-1 : Int32).toInt = -1 from by decide]
        rw [i_lt, i_0] at z
        omega
      · rw [i_lt, i_0] at z
        obtain ⟨p, hp, ep⟩ := i_of (n := cb) (x := N2 17 k) (by omega) u3
        rw [ep, uc_nI (by omega), if_neg (show ¬ nI p = (-1000000005 : Int32) from fun y => by rw [i_eq, nI_toInt (by omega), show (-1000000005 : Int32).toInt = -1000000005 from by decide] at y; omega), e5c, if_pos (ixb_t (show 5 * b + p < 15 by omega) (by omega)), ix_nI (by omega), r3, show 48 + 2 = 50 from rfl, g1 50 (by omega), fC 50 (by omega) (by omega) (by omega) (by omega) (by omega)]
        exact next _ (Or.inr ⟨p, hp, ep, rfl⟩)
  obtain ⟨M', d1, d2, d3⟩ := lp ca FU 0 M2 (by omega) (by unfold FU; omega) (fun _ _ => rfl) (fun _ _ => rfl) (fun k' y => by omega)
  have d1 : f_X3_find_b152 FU 48 (nI b) 0 M2 = some (0, M') := d1
  refine ⟨M', N2, ca, cb, ?_, ?_, ?_, ea, hca, hcb, ta N rfl, fun x y1 y2 => ?_, ?_, t3, ?_, ?_, fun p hp => ⟨ga p, by have := (hga p hp).1; omega, (hga p hp).2.1⟩, fun p hp => ⟨gb p, by have := (hgb p hp).1; omega, (hgb p hp).2.1⟩, eb, d3⟩
  · rw [e1, f_X3_find_b131, c1, Option.bind_some, d1]
  · rw [e2, f_X10_findMatch_b122, c2, Option.bind_some]
  · refine h.scr (fun x hx => by rw [d2 x (by omega), fC x (by omega) (by omega) (by omega) (by omega) (by omega)]) ⟨fun x hx => by rw [c5.1 x (by omega) (by omega) (by omega), mset_ne (by omega), mset_ne (by omega)]; exact b1 x (by omega) (by omega) (by omega) (by omega), ?_, ?_, ?_⟩
    · rw [c5.2 3 (by omega) (by omega), mset_k (by omega), mset_k (by omega)]; exact b0 3 (by omega) (by omega)
    · rw [c5.2 13 (by omega) (by omega), mset_k (by omega), mset_k (by omega)]; exact b0 13 (by omega) (by omega)
    · rw [c5.2 45 (by omega) (by omega), mset_k (by omega), mset_k (by omega)]; exact b0 45 (by omega) (by omega)
  · rw [d2 x (by omega), fC x (by omega) (by omega) (by omega) (by omega) (by omega)]
  · rw [c5.1 1 (by omega) (by omega) (by omega), mset_ne (by omega), mset_ne (by omega)]; exact b1 1 (by omega) (by omega) (by omega) (by omega)
  · rw [d2 5 (by omega)]; exact t5
  · rw [d2 5 (by omega)]; exact t6
/-- told marks, by the relation -/
theorem toldM_rel {M N : Mem} (h : Rel M N) {v c p g : Nat} (hv : v < 3) (hc : M 51 v = nI c) (hp : p < c) (hc5 : c ≤ 5) (hg : M 50 (5 * v + p) = nI g) (hg24 : g < 24) : f_X10_toldMark (nI v) (nI p) N = some (nI g, N) ∧ ∃ n, M 48 9 = nI n ∧ n ≤ 24 ∧ g < n := by
  obtain ⟨n, t, hr⟩ := RV.of (Or.inl rfl) h.1
  have hs := hr.sv
  have hn := hs.2.1
  obtain ⟨⟨n', p1, p2, nc, cs, hcc⟩, -⟩ := id h.1
  have hnn : n' = n := (nI_eq (by have := p2.1; omega) (by omega)).mp (p1.symm.trans hr.2.1)
  subst hnn
  obtain ⟨ca, hca, ea, -, ka⟩ := told_S hn hs.2.2.1 hcc hv
  have ea : M 51 v = nI ca := ea
  have : ca = c := (nI_eq (by omega) (by omega)).mp (ea.symm.trans hc)
  subst this
  obtain ⟨g', g1, g2, g3⟩ := ka p hp
  have g2 : M 50 (5 * v + p) = nI g' := g2
  have : g' = g := (nI_eq (by omega) (by omega)).mp (g2.symm.trans hg)
  subst this
  exact ⟨g3 N rfl, n', p1, hn, g1⟩
theorem areTwo3 (x y : Int32) (M : Mem) : f_X9_areTwo x y 3 M = some (b2i ((0 ≤ x.toInt ∧ x.toInt < 3) ∧ (0 ≤ y.toInt ∧ y.toInt < 3) ∧ x ≠ y), M) := areTwo_eq x y 3 M
theorem areTwoM_eq (x y : Int32) (N : Mem) : f_X10_areTwo x y N = some (b2i ((0 ≤ x.toInt ∧ x.toInt < 3) ∧ (0 ≤ y.toInt ∧ y.toInt < 3) ∧ x ≠ y), N) := by
  unfold f_X10_areTwo f_X10_areTwo_b0
  rw [isVoyage_eq]
  simp only [Option.bind_some, b2i_eq0, isVoyage_eq]
  unfold b2i
  by_cases h1 : 0 ≤ x.toInt ∧ x.toInt < 3
  · rw [if_neg (nn h1)]
    by_cases h2 : 0 ≤ y.toInt ∧ y.toInt < 3
    · rw [if_neg (nn h2)]
      by_cases h3 : x = y
      · rw [if_pos h3, if_neg (fun q => q.2.2 h3)]
      · rw [if_neg h3, if_pos ⟨h1, h2, h3⟩]
    · rw [if_pos h2, if_neg (fun q => h2 q.2.1)]
  · rw [if_pos h1, if_neg (fun q => h1 q.1)]
theorem q_match {M N : Mem} (h : Rel M N) (x1 x2 x3 : Int32) : Eqv (f_X9_match x1 x2 x3 M) (f_X10_match x1 x2 x3 N) := by
  unfold f_X9_match f_X9_match_b0 f_X10_match f_X10_match_b0
  rw [areTwo3, areTwoM_eq]
  simp only [Option.bind_some, b2i_eq0]
  by_cases hc : (0 ≤ x1.toInt ∧ x1.toInt < 3) ∧ (0 ≤ x2.toInt ∧ x2.toInt < 3) ∧ x1 ≠ x2
  rotate_left
  · rw [if_pos hc, if_pos hc]
    exact ⟨_, M, N, rfl, rfl, h⟩
  rw [if_neg (nn hc), if_neg (nn hc)]
  obtain ⟨a, ha, rfl⟩ := i_of (n := 3) hc.1.1 hc.1.2
  obtain ⟨b, hb, rfl⟩ := i_of (n := 3) hc.2.1.1 hc.2.1.2
  obtain ⟨M', N', ca, cb, e1, e2, R, ea, hca, hcb, ta, fM, n1, n32, m0, m1, -, kb, eb, kk⟩ := match_both h ha hb
  rw [if_pos (ixb_t ha (by omega)), ix_nI (by omega), ea, ta]
  simp only [Option.bind_some]
  rw [isWithinN x3 (-2) (nI ca - 1) (-2) ((ca : Int) - 1) (by decide) (i_pred (by omega)), isInN x3 (-2) (nI ca - 1).toInt64 (-2) ((ca : Int) - 1) (by decide) (by rw [l_of]; exact i_pred (by omega))]
  simp only [Option.bind_some, b2i_eq0]
  by_cases hx : -2 ≤ x3.toInt ∧ x3.toInt ≤ (ca : Int) - 1
  rotate_left
  · rw [if_pos hx, if_pos hx]
    exact ⟨_, M, N, rfl, rfl, h⟩
  rw [if_neg (nn hx), if_neg (nn hx), e1, e2]
  simp only [Option.bind_some]
  have c2 : (-2 : Int32).toInt = -2 := by decide
  have c1 : (-1 : Int32).toInt = -1 := by decide
  by_cases q : 0 ≤ x3
  rotate_left
  · rw [if_neg q]
    rw [i_le, i_0] at q
    by_cases q2 : x3 = -2
    · rw [if_pos q2, if_pos q2, m0]
      exact ⟨_, M', N', rfl, rfl, R⟩
    · rw [if_neg q2, if_neg q2, if_pos (by rw [i_eq, c2] at q2; rw [i_eq, c1]; omega), m1]
      exact ⟨_, M', N', rfl, rfl, R⟩
  · rw [if_pos q]
    rw [i_le, i_0] at q
    obtain ⟨k, hk, rfl⟩ := i_of (n := ca) (x := x3) q (by omega)
    rw [nI_toInt (by omega)] at q
    have i5 : ixb (nI k) 5 = true := ixb_t (by omega) (by omega)
    rw [if_neg (show ¬ nI k = (-2 : Int32) by rw [i_eq, nI_toInt (by omega), c2]; omega), if_neg (show ¬ nI k = (-1 : Int32) by rw [i_eq, nI_toInt (by omega), c1]; omega)]
    simp only [i5, if_true]
    rw [ix_nI (by omega)]
    rcases kk k hk with ⟨y1, y2⟩ | ⟨p, y0, y1, y2⟩
    · rw [y1, y2, if_neg (by decide)]
      exact ⟨_, M', N', rfl, rfl, R⟩
    · obtain ⟨g, hg, eg⟩ := kb p y0
      have := (toldM_rel R (v := b) (c := cb) (p := p) (g := g) hb (by rw [fM 51 (by omega) (by omega)]; exact eb) y0 hcb (by rw [fM 50 (by omega) (by omega)]; exact eg) hg).1
      rw [y1, y2, if_pos (by rw [i_le, i_0, nI_toInt (by omega)]; omega), this, eg]
      exact ⟨_, M', N', rfl, rfl, R⟩
/-- as Option.bind_some, but no cast by definition -/
theorem bsm {α β : Type} (a : α) (f : α → Option β) : (some a).bind f = f a := (Option.bind_some a f).trans (Eq.refl _)
theorem q_join {M N : Mem} (h : Rel M N) (x1 x2 : Int32) : Eqv (f_X9_join x1 x2 M) (f_X10_join x1 x2 N) := by
  unfold f_X9_join f_X9_join_b0 f_X10_join f_X10_join_b0
  rw [areTwo3, areTwoM_eq]
  simp only [bsm, b2i_eq0]
  by_cases hc : (0 ≤ x1.toInt ∧ x1.toInt < 3) ∧ (0 ≤ x2.toInt ∧ x2.toInt < 3) ∧ x1 ≠ x2
  rotate_left
  · rw [if_pos hc, if_pos hc]
    exact ⟨_, M, N, rfl, rfl, h⟩
  rw [if_neg (nn hc), if_neg (nn hc)]
  obtain ⟨a, ha, rfl⟩ := i_of (n := 3) hc.1.1 hc.1.2
  obtain ⟨b, hb, rfl⟩ := i_of (n := 3) hc.2.1.1 hc.2.1.2
  obtain ⟨M', N', ca, cb, e1, e2, R, ea, hca, hcb, ta, fM, n1, n32, m0, m1, ka, kb, eb, kk⟩ := match_both h ha hb
  rw [e1, e2]
  simp only [bsm]
  have key : ∀ (r fuel i : Nat) (x : Int32) (M1 N1 : Mem), i + r = ca → r < fuel → Rel M1 N1 → M1 50 = M 50 → M1 51 = M 51 → M1 6 = M' 6 → N1 0 32 = nI ca → N1 17 = N' 17 → Eqv (f_X9_join_b30 fuel (nI a) x (nI i) M1) (f_X10_join_b22 fuel (nI a) (nI b) x (nI i) N1) := by
    intro r
    induction r with
    | zero =>
      intro fuel i x M1 N1 hi hf R1 g1 g2 g3 g4 g5
      obtain ⟨f, rfl⟩ : ∃ f, fuel = f + 1 := ⟨fuel - 1, by omega⟩
      have : i = ca := by omega
      subst this
      rw [f_X9_join_b30, f_X10_join_b22, if_pos (ixb_t ha (by omega)), ix_nI (by omega), g2, ea, g4, if_pos (nI_le (Nat.le_refl _) (by omega)), if_pos (nI_le (Nat.le_refl _) (by omega))]
      exact ⟨_, M1, N1, rfl, rfl, R1⟩
    | succ r ih =>
      intro fuel i x M1 N1 hi hf R1 g1 g2 g3 g4 g5
      obtain ⟨f, rfl⟩ : ∃ f, fuel = f + 1 := ⟨fuel - 1, by omega⟩
      have i5 : ixb (nI i) 5 = true := ixb_t (by omega) (by omega)
      obtain ⟨g, hg, eg⟩ := ka i (by omega)
      obtain ⟨tm, n, en, hn, hgn⟩ := toldM_rel R1 (v := a) (c := ca) (p := i) (g := g) ha (by rw [g2]; exact ea) (by omega) hca (by rw [g1]; exact eg) hg
      obtain ⟨n', t, hr⟩ := RV.of (Or.inl rfl) R1.1
      have : n' = n := (nI_eq (by have := hr.sv.2.1; omega) (by omega)).mp (hr.2.1.symm.trans en)
      subst this
      obtain ⟨okg, eqg⟩ := hr.2.2.1.2.2 g hgn
      have c5 : M1 (48 + 8 + g) 5 = uc (N1 1 (120 + 7 * g + 5)) := eqg.2.2.2.2.2.1
      have bd := okg.2.2.2.2.2.1
      rw [f_X9_join_b30, f_X10_join_b22, if_pos (ixb_t ha (by omega)), ix_nI (show a < 2 ^ 31 by omega), g2, ea, g4, if_neg (nI_ge (by omega) (by omega)), if_neg (nI_ge (by omega) (by omega)), choM_eq ha (by omega) hg (by rw [g1]; exact eg), tm]
      simp only [bsm]
      rw [fd5 (by omega)]
      simp only [bsm, i5, if_true]
      rw [ix_nI (show i < 2 ^ 31 by omega), g3, g5, c5]
      have un := uc_none bd.1
      have stay : Eqv (f_X9_join_b121 (f_X9_join_b30 f) (nI a) x (nI i) M1) (f_X10_join_b97 (f_X10_join_b22 f) (nI a) (nI b) x (nI i) N1) := by
        rw [f_X9_join_b121, f_X10_join_b97, nI_1]
        exact ih f (i + 1) x M1 N1 (by omega) (by omega) R1 g1 g2 g3 g4 g5
      rcases kk i (by omega) with ⟨y1, y2⟩ | ⟨p, y0, y1, y2⟩
      · rw [y1, y2, if_pos (show (-1 : Int32) < 0 by decide), if_pos (rfl : (-1000000005 : Int32) = -1000000005)]
        split <;> exact stay
      · obtain ⟨g', hg', eg'⟩ := kb p y0
        obtain ⟨tm', n'', en', hn', hgn'⟩ := toldM_rel R1 (v := b) (c := cb) (p := p) (g := g') hb (by rw [g2]; exact eb) y0 hcb (by rw [g1]; exact eg') hg'
        have : n'' = n' := (nI_eq (by omega) (by omega)).mp (en'.symm.trans en)
        subst this
        obtain ⟨okg', eqg'⟩ := hr.2.2.1.2.2 g' hgn'
        have c5' : M1 (48 + 8 + g') 5 = uc (N1 1 (120 + 7 * g' + 5)) := eqg'.2.2.2.2.2.1
        have bd' := okg'.2.2.2.2.2.1
        have r1 : rfC 49 g' = 48 + 8 + g' := rf_mk (co := 48) (Or.inl rfl) hg'
        rw [y1, y2, eg', if_neg (show ¬ nI p < 0 from nI_lt0 (by omega)), if_neg (show ¬ nI g' = (-1000000005 : Int32) from fun y => by rw [i_eq, nI_toInt (by omega), show (-1000000005 : Int32).toInt = -1000000005 from by decide] at y; omega)]
        by_cases q : N1 1 (120 + 7 * g + 5) < 0
        · rw [if_pos (un.mpr q), if_pos q]
          exact stay
        · rw [if_neg (fun y => q (un.mp y)), if_neg q, tm']
          simp only [bsm, ixb_t hg' (show 24 < 2 ^ 31 by omega), if_true]
          rw [markAt_eq, ix_nI (show g' < 2 ^ 31 by omega), r1, c5']
          simp only [bsm]
          rw [show nI (120 + 7 * g') + (5 : Int32) = nI (120 + 7 * g' + 5) from by rw [i_lit, nI_add], becomes_eq (by omega)]
          simp only [bsm]
          rw [i_lt, i_0] at q
          obtain ⟨cp, hcp, ecp⟩ := i_of (n := 9) (x := N1 1 (120 + 7 * g + 5)) (by omega) (by omega)
          have ucp : uc (nI cp) = nI cp := uc_nI (by omega)
          have RS : Rel (mset M1 (48 + 8 + g') 5 (nI cp)) (mset N1 1 (120 + 7 * g' + 5) (nI cp)) := by
            have := R1.1.setM hr hgn' (f := 5) (Or.inl rfl) (x := nI cp) (by rw [nI_toInt (by omega)]; exact ⟨by omega, by rw [if_pos rfl]; omega⟩)
            rw [ucp] at this
            exact R1.set1 (by omega) this (by omega)
          rw [ecp, ucp, f_X10_join_b95, f_X10_join_b95, f_X10_join_b97, f_X10_join_b97, f_X9_join_b121, f_X9_join_b121, nI_1, show x + 0 = x from Int32.add_zero _]
          by_cases q2 : N1 1 (120 + 7 * g' + 5) = nI cp
          · have eM : mset M1 (48 + 8 + g') 5 (nI cp) = M1 := by
              funext y j
              by_cases z : y = 48 + 8 + g' ∧ j = 5
              · rw [z.1, z.2, mset_at, c5', q2, ucp]
              · simp [mset, z]
            rw [eM] at RS
            rw [if_pos (by rw [q2, ucp]), if_pos q2]
            exact ih f (i + 1) x M1 _ (by omega) (by omega) RS g1 g2 g3 (by rw [mset_ne (by omega)]; exact g4) (by rw [mset_ne (by omega)]; exact g5)
          · rw [if_neg (fun y => q2 ((uc_eq bd'.1 (by omega)).mp y)), if_neg q2]
            exact ih f (i + 1) (x + 1) _ _ (by omega) (by omega) RS (by rw [mset_ne (by omega)]; exact g1) (by rw [mset_ne (by omega)]; exact g2) (by rw [mset_ne (by omega)]; exact g3) (by rw [mset_ne (by omega)]; exact g4) (by rw [mset_ne (by omega)]; exact g5)
  exact key ca FU 0 0 M' N' (by omega) (by unfold FU; omega) R (fM 50 (by omega) (by omega)) (fM 51 (by omega) (by omega)) rfl n32 rfl
