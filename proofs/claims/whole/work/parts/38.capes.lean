/-! ARITHMETIC WITHOUT WRAPPING -/
theorem i_add {a b : Int32} (h1 : -2147483648 ≤ a.toInt + b.toInt) (h2 : a.toInt + b.toInt ≤ 2147483647) : (a + b).toInt = a.toInt + b.toInt := by
  rw [Int32.toInt_add]
  apply Int.bmod_eq_of_le <;> omega
theorem i_sub {a b : Int32} (h1 : -2147483648 ≤ a.toInt - b.toInt) (h2 : a.toInt - b.toInt ≤ 2147483647) : (a - b).toInt = a.toInt - b.toInt := by
  rw [Int32.toInt_sub]
  apply Int.bmod_eq_of_le <;> omega
theorem i_mul {a b : Int32} (h1 : -2147483648 ≤ a.toInt * b.toInt) (h2 : a.toInt * b.toInt ≤ 2147483647) : (a * b).toInt = a.toInt * b.toInt := by
  rw [Int32.toInt_mul]
  apply Int.bmod_eq_of_le <;> omega
theorem tdiv_bd (a b : Int) (hb : 0 < b) : (0 ≤ a → 0 ≤ a.tdiv b ∧ a.tdiv b ≤ a ∧ a.tdiv b = a / b) ∧ (a ≤ 0 → a ≤ a.tdiv b ∧ a.tdiv b ≤ 0) := by
  refine ⟨fun h => ?_, fun h => ?_⟩
  · rw [Int.tdiv_eq_ediv_of_nonneg h]
    exact ⟨Int.ediv_nonneg h (by omega), Int.ediv_le_self b h, rfl⟩
  · have e : a.tdiv b = -((-a) / b) := by
      rw [← Int.tdiv_eq_ediv_of_nonneg (by omega : 0 ≤ -a), Int.neg_tdiv, Int.neg_neg]
    have h1 := Int.ediv_nonneg (a := -a) (b := b) (by omega) (by omega)
    have h2 := Int.ediv_le_self b (by omega : 0 ≤ -a)
    rw [e]
    omega
theorem i_div {a b : Int32} (hb : 0 < b.toInt) : (a / b).toInt = a.toInt.tdiv b.toInt := by
  rw [Int32.toInt_div]
  have h := tdiv_bd a.toInt b.toInt hb
  have ha := i_bd a
  by_cases h0 : 0 ≤ a.toInt
  · have := h.1 h0
    apply Int.bmod_eq_of_le <;> omega
  · have := h.2 (by omega)
    apply Int.bmod_eq_of_le <;> omega
theorem hld_bd {y : Int64} {lo hi : Int32} (h : lo.toInt ≤ hi.toInt) : lo.toInt ≤ (hld y lo hi).toInt ∧ (hld y lo hi).toInt ≤ hi.toInt := by
  unfold hld
  by_cases h1 : y.toInt < lo.toInt
  · rw [if_pos h1]; omega
  · rw [if_neg h1]
    by_cases h2 : hi.toInt < y.toInt
    · rw [if_pos h2]; omega
    · rw [if_neg h2]
      have hl := i_bd lo
      have hh := i_bd hi
      have : y.toInt32.toInt = y.toInt := by
        rw [Int64.toInt_toInt32]
        apply Int.bmod_eq_of_le <;> omega
      rw [this]
      omega
theorem c10 : (10 : Int32).toInt = 10 := by decide
theorem c100 : (100 : Int32).toInt = 100 := by decide
theorem c5 : (5 : Int32).toInt = 5 := by decide
theorem c20 : (20 : Int32).toInt = 20 := by decide
theorem says_bd {S : Row} {i : Nat} (ok : MkOk S i) : -250 ≤ (saysS S i).toInt ∧ (saysS S i).toInt ≤ 4000 := by
  obtain ⟨o0, o1, o2, o3, o4, -⟩ := ok
  have q := tdiv_bd (S (120 + 7 * i + 4)).toInt 10 (by omega)
  have d10 : (S (120 + 7 * i + 4) / 10).toInt = (S (120 + 7 * i + 4)).toInt.tdiv 10 := by rw [i_div (by rw [c10]; omega), c10]
  have bq : -99 ≤ (S (120 + 7 * i + 4)).toInt.tdiv 10 ∧ (S (120 + 7 * i + 4)).toInt.tdiv 10 ≤ 99 := by
    by_cases h0 : 0 ≤ (S (120 + 7 * i + 4)).toInt
    · have := q.1 h0; omega
    · have := q.2 (by omega); omega
  have dr : (S (120 + 7 * i + 3) + S (120 + 7 * i + 4) / 10).toInt = (S (120 + 7 * i + 3)).toInt + (S (120 + 7 * i + 4)).toInt.tdiv 10 := by rw [i_add (by omega) (by omega), d10]
  unfold saysS
  by_cases k1 : S (120 + 7 * i) = 1
  · rw [if_pos k1]
    have hb := hld_bd (y := (lawS S i 0 100).toInt64) (lo := 1) (hi := 400) (by decide)
    have e1 : (1 : Int32).toInt = 1 := by decide
    have e4 : (400 : Int32).toInt = 400 := by decide
    rw [e1, e4] at hb
    have hp : 0 ≤ (S (120 + 7 * i + 3)).toInt * (logS S i).toInt ∧ (S (120 + 7 * i + 3)).toInt * (logS S i).toInt ≤ 999 * 400 := ⟨Int.mul_nonneg o3.1 (by unfold logS; omega), Int.mul_le_mul o3.2 (by unfold logS; omega) (by unfold logS; omega) (by omega)⟩
    rw [i_div (by rw [c100]; omega), c100, i_mul (by omega) (by omega)]
    have := (tdiv_bd ((S (120 + 7 * i + 3)).toInt * (logS S i).toInt) 100 (by omega)).1 hp.1
    omega
  rw [if_neg k1]
  by_cases k2 : S (120 + 7 * i) = 2
  · rw [if_pos k2]
    have hb := hld_bd (y := (lawS S i 1 0).toInt64) (lo := -200) (hi := 200) (by decide)
    have e1 : (-200 : Int32).toInt = -200 := by decide
    have e4 : (200 : Int32).toInt = 200 := by decide
    rw [e1, e4] at hb
    have hb : -200 ≤ (needleS S i).toInt ∧ (needleS S i).toInt ≤ 200 := hb
    rw [i_add (by omega) (by omega)]
    omega
  rw [if_neg k2]
  by_cases k3 : S (120 + 7 * i) = 3
  · rw [if_pos k3]
    have hb := hld_bd (y := (lawS S i 2 0).toInt64 + (byS S i).toInt64) (lo := -200) (hi := 200) (by decide)
    have e1 : (-200 : Int32).toInt = -200 := by decide
    have e4 : (200 : Int32).toInt = 200 := by decide
    rw [e1, e4] at hb
    have hb : -200 ≤ (watchS S i).toInt ∧ (watchS S i).toInt ≤ 200 := hb
    rw [i_add (by omega) (by omega)]
    omega
  rw [if_neg k3]
  by_cases k4 : S (120 + 7 * i) = 4
  · rw [if_pos k4, dr]; omega
  rw [if_neg k4]
  by_cases k5 : S (120 + 7 * i) = 5
  · rw [if_pos k5]
    have e5 : ((S (120 + 7 * i + 3) + S (120 + 7 * i + 4) / 10) / 5).toInt = ((S (120 + 7 * i + 3)).toInt + (S (120 + 7 * i + 4)).toInt.tdiv 10).tdiv 5 := by rw [i_div (by rw [c5]; omega), c5, dr]
    have h5 := tdiv_bd ((S (120 + 7 * i + 3)).toInt + (S (120 + 7 * i + 4)).toInt.tdiv 10) 5 (by omega)
    by_cases h0 : 0 ≤ (S (120 + 7 * i + 3)).toInt + (S (120 + 7 * i + 4)).toInt.tdiv 10
    · have h6 := h5.1 h0
      rw [i_mul (by rw [e5, c5]; omega) (by rw [e5, c5]; omega), e5, c5]
      omega
    · have h6 := h5.2 (by omega)
      have h7 : -((S (120 + 7 * i + 3)).toInt + (S (120 + 7 * i + 4)).toInt.tdiv 10) ≤ 99 := by omega
      have h8 : ((S (120 + 7 * i + 3)).toInt + (S (120 + 7 * i + 4)).toInt.tdiv 10).tdiv 5 = -((-((S (120 + 7 * i + 3)).toInt + (S (120 + 7 * i + 4)).toInt.tdiv 10)) / 5) := by
        rw [← Int.tdiv_eq_ediv_of_nonneg (by omega : 0 ≤ -((S (120 + 7 * i + 3)).toInt + (S (120 + 7 * i + 4)).toInt.tdiv 10)), Int.neg_tdiv, Int.neg_neg]
      rw [i_mul (by rw [e5, c5]; omega) (by rw [e5, c5]; omega), e5, c5, h8]
      omega
  rw [if_neg k5]
  by_cases k7 : S (120 + 7 * i) = 7
  · rw [if_pos k7, i_sub (by rw [dr, d10]; omega) (by rw [dr, d10]; omega), dr, d10]
    omega
  rw [if_neg k7]
  omega
theorem span_bd {S : Row} {i : Nat} (ok : MkOk S i) : 2 ≤ (spanS S i).toInt ∧ (spanS S i).toInt ≤ 100 := by
  obtain ⟨o0, o1, o2, o3, o4, -⟩ := ok
  unfold spanS
  have q3 := (tdiv_bd (S (120 + 7 * i + 3)).toInt 20 (by omega)).1 o3.1
  have q2 := (tdiv_bd (S (120 + 7 * i + 2)).toInt 10 (by omega)).1 o2.1
  by_cases k1 : S (120 + 7 * i) = 1
  · rw [if_pos k1]
    have d : (S (120 + 7 * i + 3) / 20).toInt = (S (120 + 7 * i + 3)).toInt.tdiv 20 := by rw [i_div (by rw [c20]; omega), c20]
    rw [i_add (by rw [c10, d]; omega) (by rw [c10, d]; omega), c10, d]
    omega
  rw [if_neg k1]
  by_cases k2 : S (120 + 7 * i) = 2
  · rw [if_pos k2]; decide
  rw [if_neg k2]
  by_cases k3 : S (120 + 7 * i) = 3
  · rw [if_pos k3]
    have d : (S (120 + 7 * i + 2) / 10).toInt = (S (120 + 7 * i + 2)).toInt.tdiv 10 := by rw [i_div (by rw [c10]; omega), c10]
    rw [i_add (by rw [c5, d]; omega) (by rw [c5, d]; omega), c5, d]
    omega
  rw [if_neg k3]
  repeat' split
  all_goals decide
/-! ENDS of a cape by the first i marks -/
def seS (S : Row) (c : Int32) : Nat → Nat
  | 0 => 0
  | i + 1 => if S (120 + 7 * i + 5) = c then seS S c i + 1 else seS S c i
def loS (S : Row) (c : Int32) : Nat → Int32
  | 0 => -1000000
  | i + 1 => if S (120 + 7 * i + 5) = c then (if saysS S i - spanS S i ≤ loS S c i then loS S c i else saysS S i - spanS S i) else loS S c i
def hiS (S : Row) (c : Int32) : Nat → Int32
  | 0 => 1000000
  | i + 1 => if S (120 + 7 * i + 5) = c then (if saysS S i + spanS S i ≤ hiS S c i then saysS S i + spanS S i else hiS S c i) else hiS S c i
def woS (S : Row) (c : Int32) : Nat → Int32
  | 0 => 0
  | i + 1 => if S (120 + 7 * i + 5) = c then woS S c i + worthS (S (120 + 7 * i)) else woS S c i
def vsS (S : Row) (c : Int32) : Nat → Int32
  | 0 => 0
  | i + 1 => if S (120 + 7 * i + 5) = c then vsS S c i ||| (1 <<< (S (120 + 7 * i + 1) &&& 31)) else vsS S c i
theorem seS_le (S : Row) (c : Int32) : ∀ i, seS S c i ≤ i := by
  intro i
  induction i with
  | zero => exact Nat.le_refl _
  | succ i ih => rw [seS]; split <;> omega
theorem lo0 {S : Row} {c : Int32} : ∀ i, seS S c i = 0 → loS S c i = -1000000 ∧ hiS S c i = 1000000 := by
  intro i
  induction i with
  | zero => intro _; exact ⟨rfl, rfl⟩
  | succ i ih =>
    intro h
    rw [seS] at h
    rw [loS, hiS]
    by_cases hc : S (120 + 7 * i + 5) = c
    · rw [if_pos hc] at h; omega
    · rw [if_neg hc] at h
      rw [if_neg hc, if_neg hc]
      exact ih h
theorem uc_eq {x : Int32} {c : Nat} (hx : -1 ≤ x.toInt) (hc : c < 2 ^ 31) : (uc x = nI c) ↔ (x = nI c) := by
  unfold uc
  by_cases h : 0 ≤ x
  · rw [if_pos h]
  · rw [if_neg h]
    constructor
    · intro q
      rw [i_eq, nI_toInt hc] at q
      have : (-1000000005 : Int32).toInt = -1000000005 := by decide
      rw [this] at q
      omega
    · intro q
      rw [q] at h
      exact absurd (nI_pos' hc) h
theorem m1e6 : (-1000000 : Int32).toInt = -1000000 := by decide
theorem p1e6 : (1000000 : Int32).toInt = 1000000 := by decide
/-- what Ends holds: of a seen cape its ends too -/
def EnS (c : Row) (S : Row) (k : Int32) (i : Nat) : Prop := c 0 = nI (seS S k i) ∧ c 3 = woS S k i ∧ c 4 = vsS S k i ∧ (0 < seS S k i → c 1 = loS S k i ∧ c 2 = hiS S k i)
theorem narrow_eq {M : Mem} {S : Row} {mk i : Nat} {k : Int32} (hmk : mk ≠ 4) (ok : MkOk S i) (eq : MkEq (M mk) S i) (hk : S (120 + 7 * i + 5) = k) (hs : seS S k i < 2 ^ 30) (hE : EnS (M 4) S k i) : ∃ M', f_X1_narrow mk (saysS S i) M = some (0, M') ∧ (∀ x, x ≠ 4 → M' x = M x) ∧ EnS (M' 4) S k (i + 1) := by
  obtain ⟨h0, h3, h4, h12⟩ := hE
  have bs := says_bd ok
  have bn := span_bd ok
  have ss : (saysS S i - spanS S i).toInt = (saysS S i).toInt - (spanS S i).toInt := i_sub (by omega) (by omega)
  have sp : (saysS S i + spanS S i).toInt = (saysS S i).toInt + (spanS S i).toInt := i_add (by omega) (by omega)
  have fin : ∀ lo hi : Int32, lo = loS S k (i + 1) → hi = hiS S k (i + 1) → ∃ M', f_X1_narrow_b56 mk hi (mset M 4 1 lo) = some (0, M') ∧ (∀ x, x ≠ 4 → M' x = M x) ∧ EnS (M' 4) S k (i + 1) := by
    intro lo hi el eh
    unfold f_X1_narrow_b56
    rw [worthC_eq]
    simp only [Option.bind_some]
    unfold f_X1_narrow_bc97_1
    refine ⟨_, rfl, fun x hx => ?_, ?_⟩
    · simp only [mset_ne hx]
    · unfold EnS
      simp only [mset_self, upd, mset_ne hmk, if_true, Nat.reduceEqDiff, if_false]
      refine ⟨?_, ?_, ?_, fun _ => ⟨el, eh⟩⟩
      · rw [h0, seS, if_pos hk, nI_1]
      · rw [h3, woS, if_pos hk, eq.1]
      · rw [h4, vsS, if_pos hk, eq.2.1]
  unfold f_X1_narrow f_X1_narrow_b0
  rw [spanC eq]
  simp only [Option.bind_some]
  rw [h0]
  by_cases hz : seS S k i = 0
  · obtain ⟨l0, l1⟩ := lo0 i hz
    rw [if_pos (by rw [hz]; rfl)]
    unfold f_X1_narrow_b29
    rw [show mset M 4 1 (saysS S i - spanS S i) 4 0 = nI (seS S k i) from by rw [mset_k (by omega)]; exact h0, if_pos (by rw [hz]; rfl)]
    refine fin _ _ ?_ ?_
    · rw [loS, if_pos hk, l0, if_neg (by rw [i_le, ss, m1e6]; omega)]
    · rw [hiS, if_pos hk, l1, if_pos (by rw [i_le, sp, p1e6]; omega)]
  · obtain ⟨l1, l2⟩ := h12 (by omega)
    have hne : ¬ nI (seS S k i) = 0 := nI_ne0 (by omega) (by omega)
    rw [if_neg hne]
    unfold f_X1_narrow_b29
    rw [show mset M 4 1 (imax (M 4 1) (saysS S i - spanS S i)) 4 0 = nI (seS S k i) from by rw [mset_k (by omega)]; exact h0, if_neg hne, show mset M 4 1 (imax (M 4 1) (saysS S i - spanS S i)) 4 2 = M 4 2 from mset_k (by omega), l1, l2]
    refine fin _ _ ?_ ?_
    · rw [loS, if_pos hk]
      unfold imax
      by_cases q : loS S k i < saysS S i - spanS S i
      · rw [if_pos q, if_neg (by rw [i_le]; rw [i_lt] at q; omega)]
      · rw [if_neg q, if_pos (by rw [i_le]; rw [i_lt] at q; omega)]
    · rw [hiS, if_pos hk]
      unfold imin
      by_cases q : saysS S i + spanS S i < hiS S k i
      · rw [if_pos q, if_pos (by rw [i_le]; rw [i_lt] at q; omega)]
      · rw [if_neg q]
        by_cases q2 : saysS S i + spanS S i ≤ hiS S k i
        · rw [if_pos q2, i_eq]
          rw [i_lt] at q
          rw [i_le] at q2
          omega
        · rw [if_neg q2]
theorem look_eq {M : Mem} {S : Row} {co n t c : Nat} (h : RV M S co n t) (hc : c < 9) : ∃ M', f_X1_look co (nI c) M = some (0, M') ∧ SC M M' ∧ EnS (M' 4) S (nI c) n := by
  have hn := h.2.2.1.1
  have hrc := rf_co co h.1
  have key : ∀ (r fuel i : Nat) (M1 : Mem), i + r = n → r < fuel → SC M M1 → EnS (M1 4) S (nI c) i → ∃ M', f_X1_look_b17 fuel co (nI c) (nI i) M1 = some (0, M') ∧ SC M M' ∧ EnS (M' 4) S (nI c) n := by
    intro r
    induction r with
    | zero =>
      intro fuel i M1 hi hf hS hE
      obtain ⟨f, rfl⟩ : ∃ f, fuel = f + 1 := ⟨fuel - 1, by omega⟩
      have : i = n := by omega
      subst this
      rw [f_X1_look_b17, (h.cg hS).2.1, if_pos (nI_le (Nat.le_refl _) (by omega))]
      exact ⟨M1, rfl, hS, hE⟩
    | succ r ih =>
      intro fuel i M1 hi hf hS hE
      obtain ⟨f, rfl⟩ : ∃ f, fuel = f + 1 := ⟨fuel - 1, by omega⟩
      have hv := h.cg hS
      have hlt : i < n := by omega
      obtain ⟨ok, eq⟩ := hv.2.2.1.2.2 i hlt
      have e5 : M1 (co + 8 + i) 5 = uc (S (120 + 7 * i + 5)) := eq.2.2.2.2.2.1
      rw [f_X1_look_b17, hv.2.1, if_neg (nI_ge (by omega) (by omega)), if_pos (ixb_t (by omega) (by omega)), ix_nI (by omega), hrc.1, rf_mk h.1 (by omega), e5]
      by_cases hk : S (120 + 7 * i + 5) = nI c
      · rw [if_pos ((uc_eq ok.2.2.2.2.2.1.1 (by omega)).mpr hk)]
        obtain ⟨M2, e2, g2⟩ := saysC hv hlt
        rw [e2]
        simp only [Option.bind_some]
        have hco : co = 48 ∨ co = 80 := h.1
        have hE2 : EnS (M2 4) S (nI c) i := by rw [g2 4 (by omega)]; exact hE
        have eq2 : MkEq (M2 (co + 8 + i)) S i := by rw [g2 (co + 8 + i) (by omega)]; exact eq
        obtain ⟨M3, e3, g3, hE3⟩ := narrow_eq (mk := co + 8 + i) (by omega) ok eq2 hk (by have := seS_le S (nI c) i; omega) hE2
        rw [e3]
        simp only [Option.bind_some]
        rw [f_X1_look_b54, nI_1]
        refine ih f (i + 1) M3 (by omega) (by omega) (fun x hx => ?_) hE3
        rw [g3 x (by omega), g2 x (by omega)]
        exact hS x hx
      · rw [if_neg (fun q => hk ((uc_eq ok.2.2.2.2.2.1.1 (by omega)).mp q)), f_X1_look_b54, nI_1]
        refine ih f (i + 1) M1 (by omega) (by omega) hS ?_
        unfold EnS at hE ⊢
        rw [seS, woS, vsS, loS, hiS, if_neg hk, if_neg hk, if_neg hk, if_neg hk, if_neg hk]
        exact hE
  unfold f_X1_look f_X1_look_b0
  refine key n FU 0 _ (by omega) (by unfold FU; omega) (((SC.rf M).set (by omega)).set (by omega) |>.set (by omega)) ?_
  unfold EnS
  simp only [mset_self, upd, if_true, Nat.reduceEqDiff, if_false]
  exact ⟨rfl, rfl, rfl, fun q => absurd q (Nat.lt_irrefl 0)⟩
/-- what the model's find leaves -/
def FnS (o : Row) (S : Row) (k : Int32) (i : Nat) : Prop := o 26 = nI (seS S k i) ∧ o 27 = loS S k i ∧ o 28 = hiS S k i ∧ o 29 = woS S k i ∧ o 30 = vsS S k i
theorem find_eq {N : Mem} {n t c : Nat} (h : SV (N 1) n t) : ∃ N', f_X10_find (nI c) N = some (0, N') ∧ SM N N' ∧ FnS (N' 0) (N 1) (nI c) n := by
  have hn := h.2.1
  have key : ∀ (r fuel i : Nat) (N1 : Mem), i + r = n → r < fuel → SM N N1 → FnS (N1 0) (N 1) (nI c) i → ∃ N', f_X10_find_b31 fuel (nI c) (nI i) N1 = some (0, N') ∧ SM N N' ∧ FnS (N' 0) (N 1) (nI c) n := by
    intro r
    induction r with
    | zero =>
      intro fuel i N1 hi hf hS hE
      obtain ⟨f, rfl⟩ : ∃ f, fuel = f + 1 := ⟨fuel - 1, by omega⟩
      have : i = n := by omega
      subst this
      rw [f_X10_find_b31, hS.1 1 (by omega), h.1, if_pos (nI_le (Nat.le_refl _) (by omega))]
      exact ⟨N1, rfl, hS, hE⟩
    | succ r ih =>
      intro fuel i N1 hi hf hS hE
      obtain ⟨f, rfl⟩ : ∃ f, fuel = f + 1 := ⟨fuel - 1, by omega⟩
      have hlt : i < n := by omega
      have h24 : i < 24 := by omega
      have e1 := hS.1 1 (by omega)
      have hv1 : SV (N1 1) n t := by rw [e1]; exact h
      rw [f_X10_find_b31, e1, h.1, if_neg (nI_ge (by omega) (by omega)), fd5 h24, e1]
      simp only [Option.bind_some]
      by_cases hk : N 1 (120 + 7 * i + 5) = nI c
      · rw [if_pos hk]
        obtain ⟨N2, e2, g2⟩ := saysM hv1 hlt
        have e21 : N2 1 = N 1 := (g2 1 (by omega) (by omega)).trans e1
        rw [e2]
        simp only [Option.bind_some]
        rw [spanM h24]
        simp only [Option.bind_some]
        rw [e1, e21]
        have g0 : N2 0 = N1 0 := g2 0 (by omega) (by omega)
        obtain ⟨f26, f27, f28, f29, f30⟩ := hE
        have fin : ∀ lo, lo = loS (N 1) (nI c) (i + 1) → ∃ N', f_X10_find_b97 (f_X10_find_b31 f) (nI c) (nI i) (saysS (N 1) i) (spanS (N 1) i) lo (mset N2 0 26 (N2 0 26 + 1)) = some (0, N') ∧ SM N N' ∧ FnS (N' 0) (N 1) (nI c) n := by
          intro lo el
          unfold f_X10_find_b97 f_X10_least f_X10_least_b0
          have x28 : mset (mset N2 0 26 (N2 0 26 + 1)) 0 27 lo 0 28 = hiS (N 1) (nI c) i := by rw [mset_k (by omega), mset_k (by omega), g0]; exact f28
          rw [x28]
          have go : ∀ hi', hi' = hiS (N 1) (nI c) (i + 1) → ∃ N', ((some (hi', mset (mset N2 0 26 (N2 0 26 + 1)) 0 27 lo) : Option (Int32 × Mem)).bind fun q1 => (f_X10_field (nI i) (0 : Int32) (mset q1.2 0 28 q1.1)).bind fun q2 => (f_X10_worthOf q2.1 q2.2).bind fun q3 => (f_X10_field (nI i) (1 : Int32) (mset q3.2 0 29 (((mset q1.2 0 28 q1.1) 0 29) + q3.1))).bind fun q4 => f_X10_find_b150 (f_X10_find_b31 f) (nI c) (nI i) (mset q4.2 0 30 (((mset q3.2 0 29 (((mset q1.2 0 28 q1.1) 0 29) + q3.1)) 0 30) ||| ((1 : Int32) <<< (q4.1 &&& 31))))) = some (0, N') ∧ SM N N' ∧ FnS (N' 0) (N 1) (nI c) n := by
            intro hi' eh
            simp only [Option.bind_some, fd0 h24, fd1 h24, worthM_eq]
            rw [f_X10_find_b150, nI_1]
            refine ih f (i + 1) _ (by omega) (by omega) ((((((hS.tr (SM.of g2)).set0 (by omega)).set0 (by omega)).set0 (by omega)).set0 (by omega)).set0 (by omega)) ?_
            unfold FnS
            simp only [mset_self, upd, if_true, Nat.reduceEqDiff, if_false, mset_ne (show (1 : Nat) ≠ 0 by omega), g0, e21]
            refine ⟨?_, el, eh, ?_, ?_⟩
            · rw [f26, seS, if_pos hk, nI_1]
            · rw [f29, woS, if_pos hk]
            · rw [f30, vsS, if_pos hk]
          by_cases q : saysS (N 1) i + spanS (N 1) i ≤ hiS (N 1) (nI c) i
          · rw [if_pos q]
            exact go _ (by rw [hiS, if_pos hk, if_pos q])
          · rw [if_neg q]
            exact go _ (by rw [hiS, if_pos hk, if_neg q])
        have x27 : mset N2 0 26 (N2 0 26 + 1) 0 27 = loS (N 1) (nI c) i := by rw [mset_k (by omega), g0]; exact f27
        rw [x27]
        by_cases q : saysS (N 1) i - spanS (N 1) i ≤ loS (N 1) (nI c) i
        · rw [if_pos q]
          exact fin _ (by rw [loS, if_pos hk, if_pos q])
        · rw [if_neg q]
          exact fin _ (by rw [loS, if_pos hk, if_neg q])
      · rw [if_neg hk, f_X10_find_b150, nI_1]
        refine ih f (i + 1) N1 (by omega) (by omega) hS ?_
        unfold FnS at hE ⊢
        rw [seS, woS, vsS, loS, hiS, if_neg hk, if_neg hk, if_neg hk, if_neg hk, if_neg hk]
        exact hE
  unfold f_X10_find f_X10_find_b0 f_X10_find_bc29_1
  refine key n FU 0 _ (by omega) (by unfold FU; omega) ((((((SM.rf N).set0 (by omega)).set0 (by omega)).set0 (by omega)).set0 (by omega)).set0 (by omega)) ?_
  unfold FnS
  simp only [mset_self, upd, if_true, Nat.reduceEqDiff, if_false]
  exact ⟨rfl, rfl, rfl, rfl, rfl⟩
