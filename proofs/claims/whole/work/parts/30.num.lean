/-! NUMBERS -/
def b2i (p : Prop) [Decidable p] : Int32 := if p then 1 else 0
theorem b2i_eq0 (p : Prop) [Decidable p] : (b2i p = 0) = ¬ p := by
  unfold b2i
  by_cases h : p <;> simp [h]
theorem b2i_eq1 (p : Prop) [Decidable p] : (b2i p = 1) = p := by
  unfold b2i
  by_cases h : p <;> simp [h]
theorem b2i_z01 (p : Prop) [Decidable p] : z01 (b2i p) = true := by
  unfold b2i
  by_cases h : p <;> simp [h, z01]
theorem b2i_congr {p q : Prop} [Decidable p] [Decidable q] (h : p ↔ q) : b2i p = b2i q := by
  unfold b2i
  by_cases hp : p
  · rw [if_pos hp, if_pos (h.mp hp)]
  · rw [if_neg hp, if_neg (fun x => hp (h.mpr x))]
theorem i_lt (x y : Int32) : (x < y) = (x.toInt < y.toInt) := propext Int32.lt_iff_toInt_lt
theorem i_le (x y : Int32) : (x ≤ y) = (x.toInt ≤ y.toInt) := propext Int32.le_iff_toInt_le
theorem i_eq (x y : Int32) : (x = y) = (x.toInt = y.toInt) := propext Int32.toInt_inj.symm
theorem i_0 : (0 : Int32).toInt = 0 := rfl
theorem i_nI {k : Nat} (h : k < 2 ^ 31) : (nI k).toInt = (k : Int) := nI_toInt h
theorem i_bd (x : Int32) : -2147483648 ≤ x.toInt ∧ x.toInt ≤ 2147483647 := ⟨by have := Int32.le_toInt x; simpa using this, by have := Int32.toInt_lt x; omega⟩
theorem i_of {x : Int32} {n : Nat} (h0 : 0 ≤ x.toInt) (h1 : x.toInt < (n : Int)) : ∃ k : Nat, k < n ∧ x = nI k := by
  have hb := i_bd x
  refine ⟨x.toInt.toNat, by omega, ?_⟩
  rw [i_eq, nI_toInt (by omega)]
  omega
theorem ixb_nI {k n : Nat} (hk : k < 2 ^ 31) : ixb (nI k) n = decide (k < n) := by
  unfold ixb
  rw [nI_toInt hk]
  congr 1
  simp only [eq_iff_iff]
  omega
theorem ixb_t {k n : Nat} (h : k < n) (hn : n < 2 ^ 31) : ixb (nI k) n = true := by
  rw [ixb_nI (by omega)]
  exact decide_eq_true h
theorem ix_nI {k : Nat} (hk : k < 2 ^ 31) : ix (nI k) = k := nI_clamp hk
theorem i_lit (n : Nat) : (OfNat.ofNat n : Int32) = nI (OfNat.ofNat n) := rfl
theorem nI_mul (a b : Nat) : nI a * nI b = nI (a * b) := pk_mul a b
theorem l_of (x : Int32) : x.toInt64.toInt = x.toInt := Int32.toInt_toInt64 x
theorem lg_lt0 (x y : Int64) : (lg_cmp x y < 0) = (x.toInt < y.toInt) := by
  unfold lg_cmp
  rw [eq_iff_iff]
  by_cases h1 : x > y
  · rw [if_pos h1]
    have := Int64.lt_iff_toInt_lt.mp h1
    constructor
    · intro h; exact absurd h (by decide)
    · intro h; omega
  · rw [if_neg h1]
    have h2 : ¬ y.toInt < x.toInt := fun q => h1 (Int64.lt_iff_toInt_lt.mpr q)
    by_cases h3 : x = y
    · rw [if_pos h3, h3]
      constructor
      · intro h; exact absurd h (by decide)
      · intro h; omega
    · rw [if_neg h3]
      have h4 : x.toInt ≠ y.toInt := fun q => h3 (Int64.toInt_inj.mp q)
      constructor
      · intro _; omega
      · intro _; decide
theorem lg_gt0 (x y : Int64) : (0 < lg_cmp x y) = (y.toInt < x.toInt) := by
  unfold lg_cmp
  rw [eq_iff_iff]
  by_cases h1 : x > y
  · rw [if_pos h1]
    have := Int64.lt_iff_toInt_lt.mp h1
    constructor
    · intro _; exact this
    · intro _; decide
  · rw [if_neg h1]
    have h2 : ¬ y.toInt < x.toInt := fun q => h1 (Int64.lt_iff_toInt_lt.mpr q)
    by_cases h3 : x = y
    · rw [if_pos h3]
      constructor
      · intro h; exact absurd h (by decide)
      · intro h; exact absurd h h2
    · rw [if_neg h3]
      constructor
      · intro h; exact absurd h (by decide)
      · intro h; exact absurd h h2
theorem lg_ge0 (x y : Int64) : (0 ≤ lg_cmp x y) = (y.toInt ≤ x.toInt) := by
  have h := lg_lt0 x y
  rw [eq_iff_iff] at h ⊢
  rw [i_lt] at h
  rw [i_le]
  rw [i_0] at h ⊢
  omega
theorem lg_le0 (x y : Int64) : (lg_cmp x y ≤ 0) = (x.toInt ≤ y.toInt) := by
  have h := lg_gt0 x y
  rw [eq_iff_iff] at h ⊢
  rw [i_lt] at h
  rw [i_le]
  rw [i_0] at h ⊢
  omega
/-! LEAVES -/
theorem isBelow_eq (v l : Int32) (M : Mem) : f_X9_isBelow v l M = some (b2i (0 ≤ v.toInt ∧ v.toInt < l.toInt), M) := by
  unfold f_X9_isBelow f_X9_isBelow_b0 b2i
  simp only [i_lt, i_le, i_0]
  by_cases h1 : v.toInt < 0
  · rw [if_pos h1, if_neg (by omega)]
  · rw [if_neg h1]
    by_cases h2 : l.toInt ≤ v.toInt
    · rw [if_pos h2, if_neg (by omega)]
    · rw [if_neg h2, if_pos (by omega)]
theorem isWithin_eq (v lo hi : Int32) (M : Mem) : f_X9_isWithin v lo hi M = some (b2i (lo.toInt ≤ v.toInt ∧ v.toInt ≤ hi.toInt), M) := by
  unfold f_X9_isWithin f_X9_isWithin_b0 b2i
  simp only [i_lt]
  by_cases h1 : v.toInt < lo.toInt
  · rw [if_pos h1, if_neg (by omega)]
  · rw [if_neg h1]
    by_cases h2 : hi.toInt < v.toInt
    · rw [if_pos h2, if_neg (by omega)]
    · rw [if_neg h2, if_pos (by omega)]
theorem isWhen_eq (v : Int32) (M : Mem) : f_X9_isWhen v M = some (b2i (0 ≤ v.toInt ∧ v.toInt < 300), M) := by
  unfold f_X9_isWhen f_X9_isWhen_b0
  rw [isBelow_eq]
  simp only [Option.bind_some, b2i_z01, if_true]
  rfl
theorem areTwo_eq (x y l : Int32) (M : Mem) : f_X9_areTwo x y l M = some (b2i ((0 ≤ x.toInt ∧ x.toInt < l.toInt) ∧ (0 ≤ y.toInt ∧ y.toInt < l.toInt) ∧ x ≠ y), M) := by
  unfold f_X9_areTwo f_X9_areTwo_b0
  rw [isBelow_eq]
  simp only [Option.bind_some, b2i_eq0, isBelow_eq]
  unfold b2i
  by_cases h1 : 0 ≤ x.toInt ∧ x.toInt < l.toInt
  · rw [if_neg (fun q => q h1)]
    by_cases h2 : 0 ≤ y.toInt ∧ y.toInt < l.toInt
    · rw [if_neg (fun q => q h2)]
      by_cases h3 : x = y
      · rw [if_pos h3, if_neg (fun q => q.2.2 h3)]
      · rw [if_neg h3, if_pos ⟨h1, h2, h3⟩]
    · rw [if_pos h2, if_neg (fun q => h2 q.2.1)]
  · rw [if_pos h1, if_neg (fun q => h1 q.1)]
theorem isIn_eq (x : Int32) (lo hi : Int64) (M : Mem) : f_X10_isIn x.toInt64 lo hi M = some (b2i (lo.toInt ≤ x.toInt ∧ x.toInt ≤ hi.toInt), M) := by
  unfold f_X10_isIn f_X10_isIn_b0 b2i
  simp only [lg_lt0, lg_gt0, l_of]
  by_cases h1 : x.toInt < lo.toInt
  · rw [if_pos h1, if_neg (by omega)]
  · rw [if_neg h1]
    by_cases h2 : hi.toInt < x.toInt
    · rw [if_pos h2, if_neg (by omega)]
    · rw [if_neg h2, if_pos (by omega)]
