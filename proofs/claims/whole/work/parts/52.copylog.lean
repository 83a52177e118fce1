/-! COPY, LOG -/
theorem l_add (x y : Int32) : (x.toInt64 + y.toInt64).toInt = x.toInt + y.toInt := by
  have h1 := i_bd x
  have h2 := i_bd y
  rw [Int64.toInt_add, l_of, l_of]
  apply Int.bmod_eq_of_le <;> omega
theorem hasPlaces_eq {M : Mem} {a n : Nat} (h : M a 1 = nI n) (hn : n ≤ 24) (x y : Int32) : f_X6_hasPlaces a x y M = some (b2i (0 ≤ x.toInt ∧ 0 ≤ y.toInt ∧ x.toInt + y.toInt ≤ (n : Int)), M) := by
  have hx := i_bd x
  unfold f_X6_hasPlaces f_X6_hasPlaces_b0 b2i
  rw [h]
  simp only [i_lt, i_0]
  by_cases h1 : x.toInt < 0
  · rw [if_pos h1, if_neg (by omega)]
  rw [if_neg h1]
  by_cases h2 : y.toInt < 0
  · rw [if_pos h2, if_neg (by omega)]
  have e : (nI n - x).toInt = (n : Int) - x.toInt := by
    rw [i_sub (by rw [nI_toInt (by omega)]; omega) (by rw [nI_toInt (by omega)]; omega), nI_toInt (by omega)]
  rw [if_neg h2, e]
  by_cases h3 : (n : Int) - x.toInt < y.toInt
  · rw [if_pos h3, if_neg (by omega)]
  · rw [if_neg h3, if_pos (by omega)]
theorem cpy_M {N : Mem} {p k a c m : Nat} (hp : p < 4) (hk : k < 4) (ha : a + m ≤ 24) (hc : c + m ≤ 24) : ∃ N', f_X10_copy_b113 FU (nI p) (nI a) (nI k) (nI c) (nI m) 0 N = some (nI m, N') ∧ (∀ j, N' 6 j = if 24 * k + c ≤ j ∧ j < 24 * k + c + m then N 6 (24 * p + a + (j - (24 * k + c))) else N 6 j) ∧ ∀ x, x ≠ 6 → x ≠ 20 → N' x = N x := by
  have k2 : ∀ (r fuel i : Nat) (N1 : Mem), i + r = m → r < fuel → (∀ j, j < m → N1 20 j = N 6 (24 * p + a + j)) → (∀ j, N1 6 j = if 24 * k + c ≤ j ∧ j < 24 * k + c + i then N 6 (24 * p + a + (j - (24 * k + c))) else N 6 j) → (∀ x, x ≠ 6 → x ≠ 20 → N1 x = N x) → ∃ N', f_X10_copy_b150 fuel (nI k) (nI c) (nI m) (nI i) N1 = some (nI m, N') ∧ (∀ j, N' 6 j = if 24 * k + c ≤ j ∧ j < 24 * k + c + m then N 6 (24 * p + a + (j - (24 * k + c))) else N 6 j) ∧ ∀ x, x ≠ 6 → x ≠ 20 → N' x = N x := by
    intro r
    induction r with
    | zero =>
      intro fuel i N1 hi hf hA hB hF
      obtain ⟨f, rfl⟩ : ∃ f, fuel = f + 1 := ⟨fuel - 1, by omega⟩
      have : i = m := by omega
      subst this
      rw [f_X10_copy_b150, if_pos (nI_le (Nat.le_refl _) (by omega))]
      exact ⟨N1, rfl, hB, hF⟩
    | succ r ih =>
      intro fuel i N1 hi hf hA hB hF
      obtain ⟨f, rfl⟩ : ∃ f, fuel = f + 1 := ⟨fuel - 1, by omega⟩
      rw [f_X10_copy_b150, if_neg (nI_ge (by omega) (by omega)), if_pos (ixb_t (show i < 24 by omega) (by omega)), i24, nI_add, if_pos (ixb_t (show 24 * k + c + i < 96 by omega) (by omega)), ix_nI (by omega), ix_nI (by omega), nI_1]
      refine ih f (i + 1) _ (by omega) (by omega) (fun j hj => by rw [mset_ne (by omega)]; exact hA j hj) (fun j => ?_) (fun x h6 h20 => by rw [mset_ne h6]; exact hF x h6 h20)
      by_cases q : j = 24 * k + c + i
      · subst q
        rw [mset_at, hA i (by omega), if_pos (by omega)]
        congr 1
        omega
      · rw [mset_k q, hB j]
        by_cases q2 : 24 * k + c ≤ j ∧ j < 24 * k + c + i
        · rw [if_pos q2, if_pos (by omega)]
        · rw [if_neg q2, if_neg (by omega)]
  have k1 : ∀ (r fuel i : Nat) (N1 : Mem), i + r = m → r < fuel → (∀ j, j < i → N1 20 j = N 6 (24 * p + a + j)) → (∀ x, x ≠ 20 → N1 x = N x) → ∃ N', f_X10_copy_b113 fuel (nI p) (nI a) (nI k) (nI c) (nI m) (nI i) N1 = some (nI m, N') ∧ (∀ j, N' 6 j = if 24 * k + c ≤ j ∧ j < 24 * k + c + m then N 6 (24 * p + a + (j - (24 * k + c))) else N 6 j) ∧ ∀ x, x ≠ 6 → x ≠ 20 → N' x = N x := by
    intro r
    induction r with
    | zero =>
      intro fuel i N1 hi hf hA hF
      obtain ⟨f, rfl⟩ : ∃ f, fuel = f + 1 := ⟨fuel - 1, by omega⟩
      have : i = m := by omega
      subst this
      rw [f_X10_copy_b113, if_pos (nI_le (Nat.le_refl _) (by omega)), f_X10_copy_b147]
      exact k2 i FU 0 N1 (by omega) (by unfold FU; omega) hA (fun j => by rw [if_neg (by omega), hF 6 (by omega)]) (fun x _ h20 => hF x h20)
    | succ r ih =>
      intro fuel i N1 hi hf hA hF
      obtain ⟨f, rfl⟩ : ∃ f, fuel = f + 1 := ⟨fuel - 1, by omega⟩
      rw [f_X10_copy_b113, if_neg (nI_ge (by omega) (by omega)), i24, nI_add, if_pos (ixb_t (show 24 * p + a + i < 96 by omega) (by omega)), if_pos (ixb_t (show i < 24 by omega) (by omega)), ix_nI (by omega), ix_nI (by omega), nI_1]
      refine ih f (i + 1) _ (by omega) (by omega) (fun j hj => ?_) (fun x h20 => by rw [mset_ne h20]; exact hF x h20)
      by_cases q : j = i
      · subst q
        rw [mset_at, hF 6 (by omega)]
      · rw [mset_k q]
        exact hA j (by omega)
  exact k1 m FU 0 N (by omega) (by unfold FU; omega) (fun j hj => by omega) (fun _ _ => rfl)
theorem q_copy {M N : Mem} (h : Rel M N) (x1 x2 x3 x4 x5 : Int32) : Eqv (f_X9_copy x1 x2 x3 x4 x5 M) (f_X10_copy x1 x2 x3 x4 x5 N) := by
  unfold f_X9_copy f_X9_copy_b0 f_X10_copy f_X10_copy_b0
  rw [isBelowN x1 4 4 (by decide), isSheet_eq]
  simp only [Option.bind_some, b2i_eq0]
  by_cases hc : 0 ≤ x1.toInt ∧ x1.toInt < 4
  rotate_left
  · rw [if_pos hc, if_pos (show ¬ (0 ≤ x1.toInt ∧ x1.toInt < 4) by omega)]
    exact ⟨_, M, N, rfl, rfl, h⟩
  rw [if_neg (nn hc), if_neg (nn (show 0 ≤ x1.toInt ∧ x1.toInt < 4 by omega))]
  rw [isBelowN x3 4 4 (by decide), isSheet_eq]
  simp only [Option.bind_some, b2i_eq0]
  by_cases hd : 0 ≤ x3.toInt ∧ x3.toInt < 4
  rotate_left
  · rw [if_pos hd, if_pos (show ¬ (0 ≤ x3.toInt ∧ x3.toInt < 4) by omega)]
    exact ⟨_, M, N, rfl, rfl, h⟩
  rw [if_neg (nn hd), if_neg (nn (show 0 ≤ x3.toInt ∧ x3.toInt < 4 by omega))]
  obtain ⟨p, hp, rfl⟩ := i_of (n := 4) hc.1 hc.2
  obtain ⟨k, hk, rfl⟩ := i_of (n := 4) hd.1 hd.2
  obtain ⟨r1, rr1⟩ := rf_sh p hp
  obtain ⟨r2, rr2⟩ := rf_sh k hk
  obtain ⟨s0, s1, sb, ⟨n, hn, en⟩, sr⟩ := h.2.2.2.1 p hp
  obtain ⟨t0, t1, tb, ⟨m, hm, em⟩, tr⟩ := h.2.2.2.1 k hk
  simp only [ixb_t hp (show 4 < 2 ^ 31 by omega), ixb_t hk (show 4 < 2 ^ 31 by omega), if_true]
  rw [ix_nI (show p < 2 ^ 31 by omega), ix_nI (show k < 2 ^ 31 by omega), r1, r2, isMissing_eq s0 sb]
  simp only [Option.bind_some, b2i_eq0]
  by_cases q : 0 ≤ N 4 p
  rotate_left
  · rw [if_neg (nn q), if_pos (by rw [i_lt, i_0]; rw [i_le, i_0] at q; omega), f_X9_copy_b51, f_X10_copy_b35]
    exact ⟨_, M, N, rfl, rfl, h⟩
  rw [if_pos (nn q), if_neg (show ¬ N 4 p < 0 by rw [i_lt, i_0]; rw [i_le, i_0] at q; omega), isMissing_eq t0 tb]
  simp only [Option.bind_some, b2i_eq0]
  by_cases q' : 0 ≤ N 4 k
  rotate_left
  · rw [if_neg (nn q'), if_neg q', f_X9_copy_b51, f_X10_copy_b35]
    exact ⟨_, M, N, rfl, rfl, h⟩
  rw [if_pos (nn q'), if_pos q', s0, t0]
  by_cases z : N 4 p = N 4 k
  rotate_left
  · rw [if_neg z, if_neg z]
    exact ⟨_, M, N, rfl, rfl, h⟩
  rw [if_pos z, if_pos z, hasPlaces_eq (s1.trans en) hn]
  simp only [Option.bind_some, b2i_eq0]
  rw [hasPlaces_eq (t1.trans em) hm]
  simp only [Option.bind_some, b2i_eq0, lg_gt0, lg_le0, l_add, l_of, en, em, nI_toInt (show n < 2 ^ 31 by omega), nI_toInt (show m < 2 ^ 31 by omega)]
  simp only [i_lt, i_0]
  rw [f_X9_copy_b94, f_X10_copy_b106]
  by_cases a2 : x2.toInt < 0
  · rw [if_pos a2, if_pos (by omega)]
    exact ⟨_, M, N, rfl, rfl, h⟩
  rw [if_neg a2]
  by_cases a5 : x5.toInt < 0
  · rw [if_pos a5, if_pos (by omega)]
    split <;> exact ⟨_, M, N, rfl, rfl, h⟩
  by_cases a4 : x4.toInt < 0
  · rw [if_pos a4, if_pos (show ¬ (0 ≤ x4.toInt ∧ 0 ≤ x5.toInt ∧ x4.toInt + x5.toInt ≤ (m : Int)) by omega)]
    split <;> exact ⟨_, M, N, rfl, rfl, h⟩
  rw [if_neg a5, if_neg a4]
  by_cases b1 : (n : Int) < x2.toInt + x5.toInt
  · rw [if_pos b1, if_pos (show ¬ (0 ≤ x2.toInt ∧ 0 ≤ x5.toInt ∧ x2.toInt + x5.toInt ≤ (n : Int)) by omega)]
    exact ⟨_, M, N, rfl, rfl, h⟩
  rw [if_neg b1, if_neg (nn (show 0 ≤ x2.toInt ∧ 0 ≤ x5.toInt ∧ x2.toInt + x5.toInt ≤ (n : Int) by omega))]
  by_cases b2 : x4.toInt + x5.toInt ≤ (m : Int)
  rotate_left
  · rw [if_neg b2, if_pos (show ¬ (0 ≤ x4.toInt ∧ 0 ≤ x5.toInt ∧ x4.toInt + x5.toInt ≤ (m : Int)) by omega)]
    exact ⟨_, M, N, rfl, rfl, h⟩
  rw [if_pos b2, if_neg (nn (show 0 ≤ x4.toInt ∧ 0 ≤ x5.toInt ∧ x4.toInt + x5.toInt ≤ (m : Int) by omega))]
  obtain ⟨a, ha, rfl⟩ := i_of (n := 25) (x := x2) (by omega) (by omega)
  obtain ⟨c, hc2, rfl⟩ := i_of (n := 25) (x := x4) (by omega) (by omega)
  obtain ⟨w, hw, rfl⟩ := i_of (n := 25) (x := x5) (by omega) (by omega)
  rw [nI_toInt (by omega), nI_toInt (by omega)] at b1 b2
  obtain ⟨N', e2, c1, c2⟩ := cpy_M (N := N) (p := p) (k := k) (a := a) (c := c) (m := w) hp hk (by omega) (by omega)
  have hcp : cpyb (nI a) (nI c) (nI w) 24 24 = true := by
    unfold cpyb
    rw [nI_toInt (by omega), nI_toInt (by omega), nI_toInt (by omega), ix_nI (by omega), ix_nI (by omega), ix_nI (by omega)]
    exact decide_eq_true (by omega)
  rw [e2, if_pos hcp, rr1, rr2, ix_nI (show a < 2 ^ 31 by omega), ix_nI (show c < 2 ^ 31 by omega), ix_nI (show w < 2 ^ 31 by omega)]
  refine ⟨_, _, N', rfl, rfl, h.she ?_ (fun y p1 p2 => mcpy_ne (by omega)) (fun y p1 p2 p3 p4 => c2 y p4 (by omega)) (by rw [c2 0 (by omega) (by omega)]) (by rw [c2 0 (by omega) (by omega)]) (by rw [c2 0 (by omega) (by omega)])⟩
  rw [c2 4 (by omega) (by omega), c2 5 (by omega) (by omega)]
  refine h.2.2.2.1.one hk (fun y p1 p2 => mcpy_ne p2) (fun _ _ => rfl) (fun _ _ => rfl) (fun j hj => by rw [c1, if_neg (by omega)]) ⟨by rw [mcpy_ne (by omega)]; exact t0, by rw [mcpy_ne (by omega)]; exact t1, tb, ⟨m, hm, em⟩, fun i hi => ?_⟩
  rw [c1, mcpy_at]
  by_cases y : c ≤ i ∧ i < c + w
  · rw [if_pos y, if_pos (by omega), sr _ (by omega)]
    congr 1
    omega
  · rw [if_neg y, if_neg (by omega)]
    exact tr i hi
def lgC (R : Row) : Nat → Nat
  | 0 => 0
  | i + 1 => lgC R i + (if 0 ≤ (R i).toInt ∧ (R i).toInt < 1000 then 1 else 0)
theorem lgC_le (R : Row) : ∀ i, lgC R i ≤ i := by
  intro i
  induction i with
  | zero => exact Nat.le_refl 0
  | succ i ih =>
    rw [lgC]
    split <;> omega
theorem plw_eq {M : Mem} {k n : Nat} (hk : k < 4) {R : Row} (e1 : M (112 + 2 * k) 1 = nI n) (hn : n ≤ 24) (eR : ∀ j, j < 24 → M (113 + 2 * k) j = R j) : f_X6_placesWithin (112 + 2 * k) 1000 M = some (nI (lgC R n), M) := by
  obtain ⟨-, r2⟩ := rf_sh k hk
  have key : ∀ (r fuel i : Nat), i + r = n → r < fuel → f_X6_placesWithin_b4 fuel (112 + 2 * k) 1000 (nI (lgC R i)) (nI i) M = some (nI (lgC R n), M) := by
    intro r
    induction r with
    | zero =>
      intro fuel i hi hf
      obtain ⟨f, rfl⟩ : ∃ f, fuel = f + 1 := ⟨fuel - 1, by omega⟩
      have : i = n := by omega
      subst this
      rw [f_X6_placesWithin_b4, e1, if_pos (nI_le (Nat.le_refl _) (by omega))]
    | succ r ih =>
      intro fuel i hi hf
      obtain ⟨f, rfl⟩ : ∃ f, fuel = f + 1 := ⟨fuel - 1, by omega⟩
      have := ih f (i + 1) (by omega) (by omega)
      rw [lgC] at this
      rw [f_X6_placesWithin_b4, e1, if_neg (nI_ge (by omega) (by omega)), if_pos (ixb_t (by omega) (by omega)), ix_nI (by omega), r2, eR i (by omega), isBelowN _ 1000 1000 (by decide)]
      simp only [Option.bind_some, b2i_eq0]
      by_cases q : 0 ≤ (R i).toInt ∧ (R i).toInt < 1000
      · rw [if_pos q] at this
        rw [if_neg (nn q), f_X6_placesWithin_b31, nI_1, nI_1]
        exact this
      · rw [if_neg q] at this
        rw [if_pos q, f_X6_placesWithin_b31, nI_1, show nI (lgC R i) + 0 = nI (lgC R i + 0) from Int32.add_zero _]
        exact this
  exact key n FU 0 (by omega) (by unfold FU; omega)
theorem lgM_eq {N : Mem} {k n : Nat} (hk : k < 4) (x2 : Int32) (e1 : N 5 k = nI n) (hn : n ≤ 24) : f_X10_log_b61 FU (nI k) x2 0 0 N = f_X10_log_b109 (nI k) x2 (nI (lgC (fun j => N 6 (24 * k + j)) n)) N := by
  generalize hR : (fun j => N 6 (24 * k + j)) = R
  have hR : ∀ j, N 6 (24 * k + j) = R j := fun j => by rw [← hR]
  have key : ∀ (r fuel i : Nat), i + r = n → r < fuel → f_X10_log_b61 fuel (nI k) x2 (nI (lgC R i)) (nI i) N = f_X10_log_b109 (nI k) x2 (nI (lgC R n)) N := by
    intro r
    induction r with
    | zero =>
      intro fuel i hi hf
      obtain ⟨f, rfl⟩ : ∃ f, fuel = f + 1 := ⟨fuel - 1, by omega⟩
      have : i = n := by omega
      subst this
      rw [f_X10_log_b61, if_pos (ixb_t hk (by omega)), ix_nI (by omega), e1, if_pos (nI_le (Nat.le_refl _) (by omega))]
    | succ r ih =>
      intro fuel i hi hf
      obtain ⟨f, rfl⟩ : ∃ f, fuel = f + 1 := ⟨fuel - 1, by omega⟩
      have := ih f (i + 1) (by omega) (by omega)
      rw [lgC] at this
      rw [f_X10_log_b61, if_pos (ixb_t hk (by omega)), ix_nI (by omega), e1, if_neg (nI_ge (by omega) (by omega)), i24, if_pos (ixb_t (show 24 * k + i < 96 by omega) (by omega)), ix_nI (by omega), hR, isInN _ 0 999 0 999 (by decide) (by decide)]
      simp only [Option.bind_some, b2i_eq0]
      by_cases q : 0 ≤ (R i).toInt ∧ (R i).toInt < 1000
      · rw [if_pos q] at this
        rw [if_neg (nn (show 0 ≤ (R i).toInt ∧ (R i).toInt ≤ 999 by omega)), f_X10_log_b101, nI_1, nI_1]
        exact this
      · rw [if_neg q] at this
        rw [if_pos (show ¬ (0 ≤ (R i).toInt ∧ (R i).toInt ≤ 999) by omega), f_X10_log_b101, nI_1, show nI (lgC R i) + 0 = nI (lgC R i + 0) from Int32.add_zero _]
        exact this
  exact key n FU 0 (by omega) (by unfold FU; omega)
theorem q_log {M N : Mem} (h : Rel M N) (x1 x2 : Int32) : Eqv (f_X9_log x1 x2 M) (f_X10_log x1 x2 N) := by
  unfold f_X9_log f_X9_log_b0 f_X10_log f_X10_log_b0
  rw [isBelowN x1 4 4 (by decide), isSheet_eq]
  simp only [Option.bind_some, b2i_eq0]
  by_cases hc : 0 ≤ x1.toInt ∧ x1.toInt < 4
  rotate_left
  · rw [if_pos hc, if_pos (show ¬ (0 ≤ x1.toInt ∧ x1.toInt < 4) by omega)]
    exact ⟨_, M, N, rfl, rfl, h⟩
  rw [if_neg (nn hc), if_neg (nn (show 0 ≤ x1.toInt ∧ x1.toInt < 4 by omega))]
  rw [isWhen_eq, isInN x2 0 299 0 299 (by decide) (by decide)]
  simp only [Option.bind_some, b2i_eq0]
  by_cases hd : 0 ≤ x2.toInt ∧ x2.toInt < 300
  rotate_left
  · rw [if_pos hd, if_pos (show ¬ (0 ≤ x2.toInt ∧ x2.toInt ≤ 299) by omega)]
    exact ⟨_, M, N, rfl, rfl, h⟩
  rw [if_neg (nn hd), if_neg (nn (show 0 ≤ x2.toInt ∧ x2.toInt ≤ 299 by omega))]
  obtain ⟨p, hp, rfl⟩ := i_of (n := 4) hc.1 hc.2
  obtain ⟨w, hw, rfl⟩ := i_of (n := 300) hd.1 hd.2
  obtain ⟨r1, rr1⟩ := rf_sh p hp
  obtain ⟨s0, s1, sb, ⟨n, hn, en⟩, sr⟩ := h.2.2.2.1 p hp
  have ip := ixb_t hp (show 4 < 2 ^ 31 by omega)
  simp only [ip, if_true]
  rw [ix_nI (show p < 2 ^ 31 by omega), r1, isMissing_eq s0 sb]
  simp only [Option.bind_some, b2i_eq0]
  by_cases q : 0 ≤ N 4 p
  rotate_left
  · rw [if_neg (nn q), if_neg q]
    exact ⟨_, M, N, rfl, rfl, h⟩
  rw [if_pos (nn q), if_pos q, s1, en, (i_rem hw).1, nI_add]
  by_cases z : w % 100 + n ≤ 100
  rotate_left
  · rw [if_neg (show ¬ nI (w % 100 + n) ≤ (100 : Int32) from nI_ge (a := 100) (by omega) (by omega)), if_neg (by rw [i_le, i_pred (by omega), show (99 : Int32).toInt = 99 from by decide]; omega)]
    exact ⟨_, M, N, rfl, rfl, h⟩
  rw [if_pos (show nI (w % 100 + n) ≤ (100 : Int32) from nI_le (b := 100) z (by omega)), if_pos (by rw [i_le, i_pred (by omega), show (99 : Int32).toInt = 99 from by decide]; omega)]
  obtain ⟨c, hm, mm, -⟩ := h.1.1
  have hs := mm.2.1
  have hc24 := mm.1
  have hl := lgC_le (fun j => N 6 (24 * p + j)) n
  rw [plw_eq (R := fun j => N 6 (24 * p + j)) hp (s1.trans en) hn sr, lgM_eq hp _ en hn, f_X10_log_b109]
  simp only [Option.bind_some]
  rw [hm, hs, nI_add]
  by_cases y : c + lgC (fun j => N 6 (24 * p + j)) n ≤ 24
  rotate_left
  · rw [if_neg (show ¬ nI (c + lgC (fun j => N 6 (24 * p + j)) n) ≤ (24 : Int32) from nI_ge (a := 24) (by omega) (by omega)), if_neg (show ¬ nI (c + lgC (fun j => N 6 (24 * p + j)) n) ≤ (24 : Int32) from nI_ge (a := 24) (by omega) (by omega))]
    exact ⟨_, M, N, rfl, rfl, h⟩
  rw [if_pos (show nI (c + lgC (fun j => N 6 (24 * p + j)) n) ≤ (24 : Int32) from nI_le (b := 24) y (by omega)), if_pos (show nI (c + lgC (fun j => N 6 (24 * p + j)) n) ≤ (24 : Int32) from nI_le (b := 24) y (by omega))]
  generalize hR : (fun j => N 6 (24 * p + j)) = R at y hl ⊢
  have hR : ∀ j, N 6 (24 * p + j) = R j := fun j => by rw [← hR]
  generalize hx : nI (lgC R n) = x4
  have key : ∀ (r fuel i m : Nat) (M1 N1 : Mem), i + r = n → r < fuel → Rel M1 N1 → M1 48 9 = nI m → m + lgC R n = c + lgC R i + lgC R n → m + lgC R n ≤ 24 + lgC R i → (N1 5 = N 5 ∧ N1 6 = N 6) → Eqv (f_X9_log_b83 fuel (nI w) (112 + 2 * p) x4 (nI i) M1) (f_X10_log_b128 fuel (nI p) (nI w) x4 (nI i) N1) := by
    intro r
    induction r with
    | zero =>
      intro fuel i m M1 N1 hi hf h hm e1 e2 hN
      obtain ⟨f, rfl⟩ : ∃ f, fuel = f + 1 := ⟨fuel - 1, by omega⟩
      have : i = n := by omega
      subst this
      obtain ⟨s0, s1, -⟩ := h.2.2.2.1 p hp
      rw [f_X9_log_b83, f_X10_log_b128, if_pos ip, ix_nI (show p < 2 ^ 31 by omega), s1, hN.1, en, if_pos (nI_le (Nat.le_refl _) (by omega)), if_pos (nI_le (Nat.le_refl _) (by omega))]
      exact ⟨_, M1, N1, rfl, rfl, h⟩
    | succ r ih =>
      intro fuel i m M1 N1 hi hf h hm e1 e2 hN
      obtain ⟨f, rfl⟩ : ∃ f, fuel = f + 1 := ⟨fuel - 1, by omega⟩
      obtain ⟨s0, s1, -, -, sr⟩ := h.2.2.2.1 p hp
      have hi24 : i < 24 := by omega
      have ii := ixb_t hi24 (show 24 < 2 ^ 31 by omega)
      have i9 := ixb_t (show 24 * p + i < 96 by omega) (show 96 < 2 ^ 31 by omega)
      rw [f_X9_log_b83, f_X10_log_b128, if_pos ip, ix_nI (show p < 2 ^ 31 by omega), s1, hN.1, en, if_neg (nI_ge (by omega) (by omega)), if_neg (nI_ge (by omega) (by omega)), i24]
      simp only [ii, i9, if_true]
      rw [ix_nI (show i < 2 ^ 31 by omega), ix_nI (show 24 * p + i < 2 ^ 31 by omega), rr1, sr i hi24, hN.2, hR, isBelowN _ 1000 1000 (by decide), isInN _ 0 999 0 999 (by decide) (by decide)]
      simp only [Option.bind_some, b2i_eq0]
      have g6 : M1 (113 + 2 * p) i = R i := by rw [sr i hi24, hN.2, hR]
      have g7 : N1 6 (24 * p + i) = R i := by rw [hN.2, hR]
      by_cases y : 0 ≤ (R i).toInt ∧ (R i).toInt < 1000
      · have hl1 : lgC R (i + 1) = lgC R i + 1 := by rw [lgC, if_pos y]
        have hmono : lgC R (i + 1) ≤ lgC R n := by
          have : ∀ d, lgC R (i + 1) ≤ lgC R (i + 1 + d) := by
            intro d
            induction d with
            | zero => exact Nat.le_refl _
            | succ d ih2 => exact Nat.le_trans ih2 (Nat.le_add_right _ _)
          have := this (n - (i + 1))
          rw [show i + 1 + (n - (i + 1)) = n from by omega] at this
          exact this
        obtain ⟨M', N', f1, f2, h', m1, m2, fM, fN⟩ := add_eq h (n := m) (w := w + i) (k := 0) (a := R i) (f := 0) hm (h.n0 ▸ hm) (by omega) (by decide) (by omega) (by omega) (by decide)
        rw [if_neg (nn y), if_neg (nn (show 0 ≤ (R i).toInt ∧ (R i).toInt ≤ 999 by omega)), nI_add, g6, g7, f1, f2]
        simp only [Option.bind_some]
        rw [f_X9_log_b129, f_X10_log_b186, nI_1]
        exact ih f (i + 1) (m + 1) M' N' (by omega) (by omega) h' m1 (by omega) (by omega) ⟨by rw [fN 5 (by omega)]; exact hN.1, by rw [fN 6 (by omega)]; exact hN.2⟩
      · have hl1 : lgC R (i + 1) = lgC R i := by rw [lgC, if_neg y, Nat.add_zero]
        rw [if_pos y, if_pos (show ¬ (0 ≤ (R i).toInt ∧ (R i).toInt ≤ 999) by omega), f_X9_log_b129, f_X10_log_b186, nI_1]
        exact ih f (i + 1) m M1 N1 (by omega) (by omega) h hm (by omega) (by omega) hN
  exact key n FU 0 c M N (by omega) (by unfold FU; omega) h hm (by rw [lgC]; omega) (by rw [lgC]; omega) ⟨rfl, rfl⟩
