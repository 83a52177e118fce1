/-! CLOCK -/
abbrev fxP (S : Row) (v : Int32) (i : Nat) : Prop := S (120 + 7 * i) = 3 ∧ S (120 + 7 * i + 1) = v
def vcS (S : Row) (v day y : Int32) (i : Nat) : Int32 := if fxP S v i then S (120 + 7 * i + 3) + hld ((lawS S i 2 0).toInt64 + (if S (120 + 7 * i + 2) < day then (0 : Int32) else y).toInt64) (-200) 200 else saysS S i
def ckL (S : Row) (v day y c : Int32) : Nat → Int32
  | 0 => -1000000
  | i + 1 => if S (120 + 7 * i + 5) = c then imax (ckL S v day y c i) (vcS S v day y i - spanS S i) else ckL S v day y c i
def ckH (S : Row) (v day y c : Int32) : Nat → Int32
  | 0 => 1000000
  | i + 1 => if S (120 + 7 * i + 5) = c then imin (ckH S v day y c i) (vcS S v day y i + spanS S i) else ckH S v day y c i
def hfP (S : Row) (v c : Int32) (n : Nat) : Prop := ∃ i, i < n ∧ S (120 + 7 * i + 5) = c ∧ fxP S v i
def AH (S : Row) (v day y : Int32) (n m : Nat) : Prop := ∀ c, c < m → hfP S v (nI c) n → ¬ ckH S v day y (nI c) n < ckL S v day y (nI c) n
theorem fixC_eq {M : Mem} {S : Row} {mk i : Nat} (ok : MkOk S i) (eq : MkEq (M mk) S i) (v : Int32) : f_X5_isFixOf mk v M = some (b2i (fxP S v i), M) := by
  unfold f_X5_isFixOf f_X5_isFixOf_b0
  rw [eq.1]
  obtain ⟨r, e1, e2, -⟩ := isUnder_eq ok.1 3 M
  rw [e1, bsm]
  dsimp only
  have hu : isUS (S (120 + 7 * i)) 3 ↔ S (120 + 7 * i) = 3 := by
    unfold isUS
    constructor
    · rintro (h | h | h)
      · exact h
      · exact absurd h (by decide)
      · exact absurd h.1 (by decide)
    · exact fun h => Or.inl h
  unfold b2i
  by_cases q : S (120 + 7 * i) = 3
  · rw [if_neg (fun y => (e2.mp y) (hu.mpr q))]
    by_cases q2 : S (120 + 7 * i + 1) = v
    · rw [if_pos (show M mk 1 = v from eq.2.1.trans q2), if_pos ⟨q, q2⟩]
    · rw [if_neg (show ¬ M mk 1 = v from fun y => q2 (eq.2.1.symm.trans y)), if_neg (fun y => q2 y.2)]
  · rw [if_pos (e2.mpr (fun y => q (hu.mp y))), if_neg (fun y => q y.1)]
theorem fixM_eq {N : Mem} {i : Nat} (hi : i < 24) (v : Int32) : f_X10_isFixOf (nI i) v N = some (b2i (fxP (N 1) v i), N) := by
  unfold f_X10_isFixOf f_X10_isFixOf_b0 b2i
  rw [fd0 hi, bsm]
  dsimp only
  by_cases q : N 1 (120 + 7 * i) = 3
  · rw [if_pos q, fd1 hi, bsm]
    dsimp only
    by_cases q2 : N 1 (120 + 7 * i + 1) = v
    · rw [if_pos q2, if_pos ⟨q, q2⟩]
    · rw [if_neg q2, if_neg (fun y => q2 y.2)]
  · rw [if_neg q, if_neg (fun y => q y.1)]
theorem least_imin (x y : Int32) (N : Mem) : f_X10_least x y N = some (imin x y, N) := by
  unfold f_X10_least f_X10_least_b0 imin
  by_cases q : y < x
  · rw [if_pos q, if_pos (by rw [i_lt] at q; rw [i_le]; omega)]
  · rw [if_neg q]
    by_cases q2 : y ≤ x
    · rw [if_pos q2]
      have : y = x := by
        rw [i_lt] at q
        rw [i_le] at q2
        rw [i_eq]
        omega
      rw [this]
    · rw [if_neg q2]
/-- what the class works out once -/
def PrC (M : Mem) (S : Row) (v : Int32) (n : Nat) : Prop := (∀ i, i < n → M 10 i = lawS S i 2 0 ∧ M 11 i = saysS S i) ∧ ∀ k, k < 32 → ((M 9 7).toBitVec.getLsbD k = true ↔ hfP S v (nI k) n)
theorem prep_eq {M : Mem} {S : Row} {n t : Nat} (hv : RV M S 48 n t) (v : Int32) : ∃ M', f_X5_prepare 48 v M = some (0, M') ∧ (∀ x, x ≠ 9 → x ≠ 10 → x ≠ 11 → x ≠ 47 → M' x = M x) ∧ PrC M' S v n := by
  have hn := hv.sv.2.1
  obtain ⟨r0, -⟩ := rf_co 48 (Or.inl rfl)
  have key : ∀ (r fuel i : Nat) (M1 : Mem), i + r = n → r < fuel → (∀ x, x ≠ 9 → x ≠ 10 → x ≠ 11 → x ≠ 47 → M1 x = M x) → PrC M1 S v i → ∃ M', f_X5_prepare_b7 fuel 48 v (nI i) M1 = some (0, M') ∧ (∀ x, x ≠ 9 → x ≠ 10 → x ≠ 11 → x ≠ 47 → M' x = M x) ∧ PrC M' S v n := by
    intro r
    induction r with
    | zero =>
      intro fuel i M1 hi hf g1 g2
      obtain ⟨f, rfl⟩ : ∃ f, fuel = f + 1 := ⟨fuel - 1, by omega⟩
      have : i = n := by omega
      subst this
      rw [f_X5_prepare_b7, g1 48 (by omega) (by omega) (by omega) (by omega), hv.2.1, if_pos (nI_le (Nat.le_refl _) (by omega))]
      exact ⟨M1, rfl, g1, g2⟩
    | succ r ih =>
      intro fuel i M1 hi hf g1 g2
      obtain ⟨f, rfl⟩ : ∃ f, fuel = f + 1 := ⟨fuel - 1, by omega⟩
      have i24 : ixb (nI i) 24 = true := ixb_t (by omega) (by omega)
      have hv1 : RV M1 S 48 n t := hv.cg (fun x hx => g1 x (by omega) (by omega) (by omega) (by omega))
      obtain ⟨M2, l1, l2⟩ := lawFor_eq (key := 2) hv1 (show i < n by omega) (by omega) 0
      have hv2 : RV (mset M2 10 i (lawS S i 2 0)) S 48 n t := hv1.cg (fun x hx => by rw [mset_ne (by omega)]; exact l2 x (by omega))
      obtain ⟨M3, s1, s2⟩ := saysC hv2 (show i < n by omega)
      have hv3 : RV (mset M3 11 i (saysS S i)) S 48 n t := hv2.cg (fun x hx => by rw [mset_ne (by omega)]; exact s2 x (by omega))
      obtain ⟨ok, eq⟩ := hv3.2.2.1.2.2 i (by omega)
      have c5 : mset M3 11 i (saysS S i) (48 + 8 + i) 5 = uc (S (120 + 7 * i + 5)) := eq.2.2.2.2.2.1
      have bd := ok.2.2.2.2.2.1
      have un := uc_none bd.1
      have fx := fixC_eq ok eq v
      have fr : ∀ x, x ≠ 9 → x ≠ 10 → x ≠ 11 → x ≠ 47 → mset M3 11 i (saysS S i) x = M x := fun x y1 y2 y3 y4 => by rw [mset_ne y3, s2 x y4, mset_ne y2, l2 x y4]; exact g1 x y1 y2 y3 y4
      have tab : ∀ j, j < i + 1 → mset M3 11 i (saysS S i) 10 j = lawS S j 2 0 ∧ mset M3 11 i (saysS S i) 11 j = saysS S j := fun j hj => by
        rw [mset_ne (show (10 : Nat) ≠ 11 by omega), s2 10 (by omega)]
        by_cases z : j = i
        · subst z
          rw [mset_at, mset_at]
          exact ⟨rfl, rfl⟩
        · rw [mset_k z, mset_k z, s2 11 (by omega), mset_ne (by omega), l2 10 (by omega), l2 11 (by omega)]
          exact g2.1 j (by omega)
      have m97 : mset M3 11 i (saysS S i) 9 7 = M1 9 7 := by rw [mset_ne (by omega), s2 9 (by omega), mset_ne (by omega), l2 9 (by omega)]
      have stay : ¬ (0 ≤ (S (120 + 7 * i + 5)).toInt ∧ fxP S v i) → PrC (mset M3 11 i (saysS S i)) S v (i + 1) := fun z => by
        refine ⟨tab, fun k hk => ?_⟩
        rw [m97, g2.2 k hk]
        constructor
        · rintro ⟨j, a, b⟩
          exact ⟨j, by omega, b⟩
        · rintro ⟨j, a, b, c⟩
          by_cases y : j = i
          · subst y
            refine absurd ⟨?_, c⟩ z
            rw [b, nI_toInt (by omega)]
            omega
          · exact ⟨j, by omega, b, c⟩
      have l1 : f_X0_lawFor 48 (48 + 8 + i) (2 : Int32) 0 M1 = some (lawS S i 2 0, M2) := l1
      rw [f_X5_prepare_b7, g1 48 (by omega) (by omega) (by omega) (by omega), hv.2.1, if_neg (nI_ge (by omega) (by omega))]
      simp only [i24, if_true]
      rw [ix_nI (by omega), r0, rf_mk (Or.inl rfl) (by omega), l1, bsm]
      dsimp only
      rw [s1, bsm]
      dsimp only
      rw [c5]
      by_cases q : S (120 + 7 * i + 5) < 0
      · rw [if_pos (un.mpr q), f_X5_prepare_b84, nI_1]
        exact ih f (i + 1) _ (by omega) (by omega) fr (stay (fun y => by rw [i_lt, i_0] at q; omega))
      · rw [if_neg (fun y => q (un.mp y)), fx, bsm]
        dsimp only
        simp only [b2i_eq0]
        by_cases q2 : fxP S v i
        rotate_left
        · rw [if_pos q2, f_X5_prepare_b84, nI_1]
          exact ih f (i + 1) _ (by omega) (by omega) fr (stay (fun y => q2 y.2))
        · rw [i_lt, i_0] at q
          obtain ⟨c, hc, ec⟩ := i_of (n := 9) (x := S (120 + 7 * i + 5)) (by omega) (by omega)
          rw [if_neg (nn q2), f_X5_prepare_b84, nI_1, c5, ec, uc_nI (by omega), m97]
          refine ih f (i + 1) _ (by omega) (by omega) (fun x y1 y2 y3 y4 => by rw [mset_ne y1]; exact fr x y1 y2 y3 y4) ⟨fun j hj => by rw [mset_ne (by omega), mset_ne (show (11 : Nat) ≠ 9 by omega)]; exact tab j hj, fun k hk => ?_⟩
          rw [mset_at, Int32.toBitVec_or, BitVec.getLsbD_or, bit1 c hc k hk, Bool.or_eq_true, decide_eq_true_eq, g2.2 k hk]
          constructor
          · rintro (⟨j, a, b⟩ | y)
            · exact ⟨j, by omega, b⟩
            · exact ⟨i, by omega, by rw [ec, y], q2⟩
          · rintro ⟨j, a, b, d⟩
            by_cases y : j = i
            · subst y
              right
              rw [ec] at b
              exact ((nI_eq (by omega) (by omega)).mp b).symm
            · left
              exact ⟨j, by omega, b, d⟩
  rw [f_X5_prepare, f_X5_prepare_b0]
  refine key n FU 0 _ (by omega) (by unfold FU; omega) (fun x y _ _ _ => by rw [mset_ne y]) ⟨fun i hi => by omega, fun k hk => ?_⟩
  rw [mset_at]
  constructor
  · intro y
    rw [show (0 : Int32).toBitVec = 0#32 from rfl, BitVec.getLsbD_zero] at y
    exact absurd y (by decide)
  · rintro ⟨j, a, -⟩
    omega
theorem allH_eq {M : Mem} {S : Row} {n t : Nat} (hv : RV M S 48 n t) {v : Int32} (hP : PrC M S v n) (day y : Int32) : ∃ z M', f_X5_allHold 48 v day y M = some (z, M') ∧ (z = 0 ↔ ¬ AH S v day y n 9) ∧ ∀ x, x ≠ 12 → x ≠ 13 → M' x = M x := by
  have hn := hv.sv.2.1
  obtain ⟨r0, -⟩ := rf_co 48 (Or.inl rfl)
  -- the last loop
  have k3 : ∀ (r fuel c : Nat) (M1 : Mem), c + r = 9 → r < fuel → (∀ x, x ≠ 12 → x ≠ 13 → M1 x = M x) → (∀ c, c < 9 → M1 12 c = ckL S v day y (nI c) n ∧ M1 13 c = ckH S v day y (nI c) n) → AH S v day y n c → ∃ z, f_X5_allHold_b192 fuel (nI c) M1 = some (z, M1) ∧ (z = 0 ↔ ¬ AH S v day y n 9) := by
    intro r
    induction r with
    | zero =>
      intro fuel c M1 hc hf g1 g2 g3
      obtain ⟨f, rfl⟩ : ∃ f, fuel = f + 1 := ⟨fuel - 1, by omega⟩
      have : c = 9 := by omega
      subst this
      rw [f_X5_allHold_b192, if_pos (show (9 : Int32) ≤ nI 9 by decide)]
      exact ⟨1, rfl, ⟨fun w => absurd w (by decide), fun w => absurd g3 w⟩⟩
    | succ r ih =>
      intro fuel c M1 hc hf g1 g2 g3
      obtain ⟨f, rfl⟩ : ∃ f, fuel = f + 1 := ⟨fuel - 1, by omega⟩
      have i9 : ixb (nI c) 9 = true := ixb_t (by omega) (by omega)
      have b0 : (M 9 7 &&& ((1 : Int32) <<< (nI c &&& 31)) = 0) ↔ ¬ hfP S v (nI c) n := by
        rw [and0]
        constructor
        · intro w z
          refine w c (by omega) ⟨(hP.2 c (by omega)).mpr z, ?_⟩
          rw [bit1 c (by omega) c (by omega)]
          exact decide_eq_true rfl
        · intro w k hk z
          rw [bit1 c (by omega) k hk, decide_eq_true_eq] at z
          have := z.2
          subst this
          exact w ((hP.2 k hk).mp z.1)
      obtain ⟨a1, a2⟩ := g2 c (by omega)
      have stp : (hfP S v (nI c) n → ¬ ckH S v day y (nI c) n < ckL S v day y (nI c) n) → AH S v day y n (c + 1) := fun w c' hc' => by
        by_cases z : c' = c
        · subst z; exact w
        · exact g3 c' (by omega)
      rw [f_X5_allHold_b192, if_neg (show ¬ (9 : Int32) ≤ nI c from nI_ge (a := c) (b := 9) (by omega) (by omega)), g1 9 (by omega) (by omega)]
      simp only [i9, if_true]
      rw [ix_nI (by omega), a1, a2]
      by_cases q : hfP S v (nI c) n
      · rw [if_neg (fun w => (b0.mp w) q)]
        by_cases q2 : ckL S v day y (nI c) n ≤ ckH S v day y (nI c) n
        · rw [if_pos q2, f_X5_allHold_b230, nI_1]
          exact ih f (c + 1) M1 (by omega) (by omega) g1 g2 (stp (fun _ w => by rw [i_le] at q2; rw [i_lt] at w; omega))
        · rw [if_neg q2]
          exact ⟨0, rfl, ⟨fun _ w => q2 (by have := w c (by omega) q; rw [i_lt] at this; rw [i_le]; omega), fun _ => rfl⟩⟩
      · rw [if_pos (b0.mpr q), f_X5_allHold_b230, nI_1]
        exact ih f (c + 1) M1 (by omega) (by omega) g1 g2 (stp (fun w => absurd w q))
  -- the middle loop
  have k2 : ∀ (r fuel i : Nat) (M1 : Mem), i + r = n → r < fuel → (∀ x, x ≠ 12 → x ≠ 13 → M1 x = M x) → (∀ c, c < 9 → M1 12 c = ckL S v day y (nI c) i ∧ M1 13 c = ckH S v day y (nI c) i) → ∃ z M', f_X5_allHold_b37 fuel 48 v day y (nI i) M1 = some (z, M') ∧ (z = 0 ↔ ¬ AH S v day y n 9) ∧ ∀ x, x ≠ 12 → x ≠ 13 → M' x = M x := by
    intro r
    induction r with
    | zero =>
      intro fuel i M1 hi hf g1 g2
      obtain ⟨f, rfl⟩ : ∃ f, fuel = f + 1 := ⟨fuel - 1, by omega⟩
      have : i = n := by omega
      subst this
      obtain ⟨z, z1, z2⟩ := k3 9 FU 0 M1 (by omega) (by unfold FU; omega) g1 g2 (fun c hc => by omega)
      rw [f_X5_allHold_b37, g1 48 (by omega) (by omega), hv.2.1, if_pos (nI_le (Nat.le_refl _) (by omega)), f_X5_allHold_b189]
      exact ⟨z, M1, z1, z2, g1⟩
    | succ r ih =>
      intro fuel i M1 hi hf g1 g2
      obtain ⟨f, rfl⟩ : ∃ f, fuel = f + 1 := ⟨fuel - 1, by omega⟩
      have i24 : ixb (nI i) 24 = true := ixb_t (by omega) (by omega)
      have hv1 : RV M1 S 48 n t := hv.cg (fun x hx => g1 x (by omega) (by omega))
      obtain ⟨ok, eq⟩ := hv1.2.2.1.2.2 i (by omega)
      have eq : MkEq (M1 (48 + 8 + i)) S i := eq
      have c5 : M1 (48 + 8 + i) 5 = uc (S (120 + 7 * i + 5)) := eq.2.2.2.2.2.1
      have c2 : M1 (48 + 8 + i) 2 = S (120 + 7 * i + 2) := eq.2.2.1
      have c3 : M1 (48 + 8 + i) 3 = S (120 + 7 * i + 3) := eq.2.2.2.1
      have bd := ok.2.2.2.2.2.1
      have un := uc_none bd.1
      have fx := fixC_eq ok eq v
      have sp := spanC eq
      obtain ⟨t1, t2⟩ := hP.1 i (by omega)
      have t1 : M1 10 i = lawS S i 2 0 := by rw [g1 10 (by omega) (by omega)]; exact t1
      have t2 : M1 11 i = saysS S i := by rw [g1 11 (by omega) (by omega)]; exact t2
      rw [f_X5_allHold_b37, g1 48 (by omega) (by omega), hv.2.1, if_neg (nI_ge (by omega) (by omega)), if_pos i24, ix_nI (by omega), r0, rf_mk (Or.inl rfl) (by omega), c5]
      by_cases q : S (120 + 7 * i + 5) < 0
      · rw [if_pos (un.mpr q), f_X5_allHold_b183, nI_1]
        refine ih f (i + 1) M1 (by omega) (by omega) g1 (fun c hc => ?_)
        have ne : ¬ S (120 + 7 * i + 5) = nI c := fun w => by rw [w] at q; exact nI_lt0 (by omega) q
        rw [ckL, ckH, if_neg ne, if_neg ne]
        exact g2 c hc
      rw [if_neg (fun w => q (un.mp w)), c2]
      rw [i_lt, i_0] at q
      obtain ⟨c, hc, ec⟩ := i_of (n := 9) (x := S (120 + 7 * i + 5)) (by omega) (by omega)
      have c5 : M1 (48 + 8 + i) 5 = nI c := by rw [c5, ec, uc_nI (by omega)]
      have i9 : ixb (nI c) 9 = true := ixb_t hc (by omega)
      have b119 : ∃ z M', f_X5_allHold_b119 (f_X5_allHold_b37 f) 48 v day y (nI i) (48 + 8 + i) (vcS S v day y i) M1 = some (z, M') ∧ (z = 0 ↔ ¬ AH S v day y n 9) ∧ ∀ x, x ≠ 12 → x ≠ 13 → M' x = M x := by
        obtain ⟨d1, d2⟩ := g2 c hc
        rw [f_X5_allHold_b119, c5, if_pos i9, sp, bsm]
        dsimp only
        rw [ix_nI (by omega), mset_ne (show 48 + 8 + i ≠ 12 by omega), c5, if_pos i9, if_pos i9, ix_nI (by omega), mset_ne (show (13 : Nat) ≠ 12 by omega), d1, d2, f_X5_allHold_bc171_1]
        have sp2 := spanC (M := mset M1 12 c (imax (ckL S v day y (nI c) i) (vcS S v day y i - spanS S i))) (mk := 48 + 8 + i) (S := S) (i := i) (by rw [mset_ne (by omega)]; exact eq)
        rw [sp2, bsm]
        dsimp only
        rw [if_pos i9, ix_nI (by omega), f_X5_allHold_b183, nI_1]
        refine ih f (i + 1) _ (by omega) (by omega) (fun x y1 y2 => by rw [mset_ne y2, mset_ne y1]; exact g1 x y1 y2) (fun c' hc' => ?_)
        rw [ckL, ckH, ec, mset_ne (show (12 : Nat) ≠ 13 by omega)]
        by_cases w : c' = c
        · subst w
          rw [mset_at, mset_at, if_pos rfl, if_pos rfl]
          exact ⟨rfl, rfl⟩
        · have ne : ¬ nI c = nI c' := nI_ne (by omega) (by omega) (fun u => w u.symm)
          rw [mset_k w, mset_k w, if_neg ne, if_neg ne, mset_ne (show (13 : Nat) ≠ 12 by omega)]
          exact g2 c' hc'
      have b80 : ∀ s0 : Int32, s0 = (if S (120 + 7 * i + 2) < day then (0 : Int32) else y) → ∃ z M', f_X5_allHold_b80 (f_X5_allHold_b37 f) 48 v day y (nI i) (48 + 8 + i) s0 M1 = some (z, M') ∧ (z = 0 ↔ ¬ AH S v day y n 9) ∧ ∀ x, x ≠ 12 → x ≠ 13 → M' x = M x := by
        intro s0 hs0
        rw [f_X5_allHold_b80, fx, bsm]
        dsimp only
        simp only [b2i_eq0]
        unfold vcS at b119
        by_cases q2 : fxP S v i
        · rw [if_pos q2, ← hs0] at b119
          rw [if_neg (nn q2), if_pos i24, ix_nI (by omega), t1, watchWith_eq, bsm]
          dsimp only
          rw [c3]
          exact b119
        · rw [if_neg q2] at b119
          rw [if_pos q2, if_pos i24, ix_nI (by omega), t2]
          exact b119
      by_cases q2 : S (120 + 7 * i + 2) < day
      · rw [if_pos q2]
        exact b80 0 (by rw [if_pos q2])
      · rw [if_neg q2]
        exact b80 y (by rw [if_neg q2])
  have k1 : ∀ (r fuel c : Nat) (M1 : Mem), c + r = 9 → r < fuel → (∀ x, x ≠ 12 → x ≠ 13 → M1 x = M x) → (∀ c', c' < c → M1 12 c' = -1000000 ∧ M1 13 c' = 1000000) → ∃ z M', f_X5_allHold_b3 fuel 48 v day y (nI c) M1 = some (z, M') ∧ (z = 0 ↔ ¬ AH S v day y n 9) ∧ ∀ x, x ≠ 12 → x ≠ 13 → M' x = M x := by
    intro r
    induction r with
    | zero =>
      intro fuel c M1 hc hf g1 g2
      obtain ⟨f, rfl⟩ : ∃ f, fuel = f + 1 := ⟨fuel - 1, by omega⟩
      have : c = 9 := by omega
      subst this
      rw [f_X5_allHold_b3, if_pos (show (9 : Int32) ≤ nI 9 by decide), f_X5_allHold_b34]
      exact k2 n FU 0 M1 (by omega) (by unfold FU; omega) g1 g2
    | succ r ih =>
      intro fuel c M1 hc hf g1 g2
      obtain ⟨f, rfl⟩ : ∃ f, fuel = f + 1 := ⟨fuel - 1, by omega⟩
      have i9 : ixb (nI c) 9 = true := ixb_t (by omega) (by omega)
      rw [f_X5_allHold_b3, if_neg (show ¬ (9 : Int32) ≤ nI c from nI_ge (a := c) (b := 9) (by omega) (by omega)), if_pos i9, if_pos i9, ix_nI (by omega), nI_1]
      refine ih f (c + 1) _ (by omega) (by omega) (fun x y1 y2 => by rw [mset_ne y2, mset_ne y1]; exact g1 x y1 y2) (fun c' hc' => ?_)
      rw [mset_ne (show (12 : Nat) ≠ 13 by omega)]
      by_cases w : c' = c
      · subst w
        rw [mset_at, mset_at]
        exact ⟨rfl, rfl⟩
      · rw [mset_k w, mset_k w, mset_ne (show (13 : Nat) ≠ 12 by omega)]
        exact g2 c' (by omega)
  exact k1 9 FU 0 M (by omega) (by unfold FU; omega) (fun _ _ _ => rfl) (fun c' hc' => by omega)
theorem hasF_eq {N : Mem} {n t c : Nat} (hs : SV (N 1) n t) (v : Int32) : ∃ z, f_X10_hasFix (nI c) v N = some (z, N) ∧ (z = 0 ↔ ¬ hfP (N 1) v (nI c) n) := by
  have hn := hs.2.1
  have key : ∀ (r fuel i : Nat) (z : Int32), i + r = n → r < fuel → (z = 0 ∨ z = 1) → (z = 0 ↔ ¬ hfP (N 1) v (nI c) i) → ∃ z', f_X10_hasFix_b5 fuel (nI c) v z (nI i) N = some (z', N) ∧ (z' = 0 ↔ ¬ hfP (N 1) v (nI c) n) := by
    intro r
    induction r with
    | zero =>
      intro fuel i z hi hf g1 g2
      obtain ⟨f, rfl⟩ : ∃ f, fuel = f + 1 := ⟨fuel - 1, by omega⟩
      have : i = n := by omega
      subst this
      have z3 : z01 z = true := by rcases g1 with rfl | rfl <;> decide
      rw [f_X10_hasFix_b5, hs.1, if_pos (nI_le (Nat.le_refl _) (by omega)), if_pos z3]
      exact ⟨z, rfl, g2⟩
    | succ r ih =>
      intro fuel i z hi hf g1 g2
      obtain ⟨f, rfl⟩ : ∃ f, fuel = f + 1 := ⟨fuel - 1, by omega⟩
      have yes : hfP (N 1) v (nI c) (i + 1) → ∃ z', f_X10_hasFix_b41 (f_X10_hasFix_b5 f) (nI c) v (nI i) N = some (z', N) ∧ (z' = 0 ↔ ¬ hfP (N 1) v (nI c) n) := fun w => by
        rw [f_X10_hasFix_b41, f_X10_hasFix_b46, nI_1]
        exact ih f (i + 1) 1 (by omega) (by omega) (Or.inr rfl) ⟨fun u => absurd u (by decide), fun u => absurd w u⟩
      have no : ¬ hfP (N 1) v (nI c) i → ¬ (N 1 (120 + 7 * i + 5) = nI c ∧ fxP (N 1) v i) → ∃ z', f_X10_hasFix_b45 (f_X10_hasFix_b5 f) (nI c) v (nI i) N = some (z', N) ∧ (z' = 0 ↔ ¬ hfP (N 1) v (nI c) n) := fun w w2 => by
        rw [f_X10_hasFix_b45, f_X10_hasFix_b46, nI_1]
        refine ih f (i + 1) 0 (by omega) (by omega) (Or.inl rfl) ⟨fun _ => ?_, fun _ => rfl⟩
        rintro ⟨j, a, b, d⟩
        by_cases u : j = i
        · subst u; exact w2 ⟨b, d⟩
        · exact w ⟨j, by omega, b, d⟩
      rw [f_X10_hasFix_b5, hs.1, if_neg (nI_ge (by omega) (by omega))]
      by_cases q : z = 0
      · have q' := g2.mp q
        rw [if_pos q, fd5 (by omega), bsm]
        dsimp only
        by_cases q2 : N 1 (120 + 7 * i + 5) = nI c
        · rw [if_pos q2, fixM_eq (by omega), bsm]
          dsimp only
          simp only [b2i_eq0]
          by_cases q3 : fxP (N 1) v i
          · rw [if_neg (nn q3)]
            exact yes ⟨i, by omega, q2, q3⟩
          · rw [if_pos q3]
            exact no q' (fun u => q3 u.2)
        · rw [if_neg q2]
          exact no q' (fun u => q2 u.1)
      · rw [if_neg q]
        refine yes ?_
        obtain ⟨j, a, b⟩ := Classical.not_not.mp (fun u => q (g2.mpr u))
        exact ⟨j, by omega, b⟩
  exact key n FU 0 0 (by omega) (by unfold FU; omega) (Or.inl rfl) ⟨fun _ => by rintro ⟨j, a, -⟩; omega, fun _ => rfl⟩
theorem wouldH_eq {N : Mem} {n t c : Nat} (hs : SV (N 1) n t) (v day y : Int32) (hT : ∀ i, i < n → N 18 i = saysS (N 1) i ∧ N 19 i = lawS (N 1) i 2 0) : f_X10_wouldHold (nI c) v day y N = some ((if ckH (N 1) v day y (nI c) n < ckL (N 1) v day y (nI c) n then (0 : Int32) else 1), N) := by
  have hn := hs.2.1
  have key : ∀ (r fuel i : Nat), i + r = n → r < fuel → f_X10_wouldHold_b13 fuel (nI c) v day y (ckL (N 1) v day y (nI c) i) (ckH (N 1) v day y (nI c) i) (nI i) N = some ((if ckH (N 1) v day y (nI c) n < ckL (N 1) v day y (nI c) n then (0 : Int32) else 1), N) := by
    intro r
    induction r with
    | zero =>
      intro fuel i hi hf
      obtain ⟨f, rfl⟩ : ∃ f, fuel = f + 1 := ⟨fuel - 1, by omega⟩
      have : i = n := by omega
      subst this
      rw [f_X10_wouldHold_b13, hs.1, if_pos (nI_le (Nat.le_refl _) (by omega)), f_X10_wouldHold_b157]
      split <;> rfl
    | succ r ih =>
      intro fuel i hi hf
      obtain ⟨f, rfl⟩ : ∃ f, fuel = f + 1 := ⟨fuel - 1, by omega⟩
      have i24 : ixb (nI i) 24 = true := ixb_t (by omega) (by omega)
      obtain ⟨t1, t2⟩ := hT i (by omega)
      have nx := ih f (i + 1) (by omega) (by omega)
      rw [ckL, ckH] at nx
      rw [f_X10_wouldHold_b13, hs.1, if_neg (nI_ge (by omega) (by omega)), fd5 (by omega), bsm]
      dsimp only
      by_cases q : N 1 (120 + 7 * i + 5) = nI c
      rotate_left
      · rw [if_neg q, if_neg q] at nx
        rw [if_neg q, f_X10_wouldHold_b151, nI_1]
        exact nx
      rw [if_pos q, if_pos q] at nx
      have sp := spanM (N := N) (show i < 24 by omega)
      generalize hL : ckL (N 1) v day y (nI c) i = lo at nx ⊢
      generalize hH : ckH (N 1) v day y (nI c) i = hi' at nx ⊢
      generalize hW : (if ckH (N 1) v day y (nI c) n < ckL (N 1) v day y (nI c) n then (0 : Int32) else 1) = ww at nx ⊢
      have b103 : f_X10_wouldHold_b103 (f_X10_wouldHold_b13 f) (nI c) v day y lo hi' (nI i) (vcS (N 1) v day y i) N = some (ww, N) := by
        generalize vcS (N 1) v day y i = vv at nx ⊢
        have b133 : f_X10_wouldHold_b133 (f_X10_wouldHold_b13 f) (nI c) v day y hi' (nI i) vv (imax lo (vv - spanS (N 1) i)) N = some (ww, N) := by
          rw [f_X10_wouldHold_b133, sp, bsm]
          dsimp only
          rw [least_imin, bsm]
          dsimp only
          rw [f_X10_wouldHold_b151, nI_1]
          exact nx
        rw [f_X10_wouldHold_b103, sp, bsm]
        dsimp only
        unfold imax at b133
        by_cases z : vv - spanS (N 1) i ≤ lo
        · rw [if_neg (by rw [i_le] at z; rw [i_lt]; omega)] at b133
          rw [if_pos z]
          exact b133
        · rw [if_pos (by rw [i_le] at z; rw [i_lt]; omega)] at b133
          rw [if_neg z, sp, bsm]
          dsimp only
          exact b133
      have b52 : ∀ s0 : Int32, s0 = (if N 1 (120 + 7 * i + 2) < day then (0 : Int32) else y) → f_X10_wouldHold_b52 (f_X10_wouldHold_b13 f) (nI c) v day y lo hi' (nI i) s0 N = some (ww, N) := by
        intro s0 hs0
        rw [f_X10_wouldHold_b52, fixM_eq (by omega), bsm]
        dsimp only
        simp only [b2i_eq0]
        unfold vcS at b103
        by_cases q2 : fxP (N 1) v i
        · rw [if_pos q2, ← hs0] at b103
          rw [if_neg (nn q2), fd3 (by omega), bsm]
          dsimp only
          rw [if_pos i24, ix_nI (by omega), t2, heldM_eq, bsm]
          exact b103
        · rw [if_neg q2] at b103
          rw [if_pos q2, if_pos i24, ix_nI (by omega), t1]
          exact b103
      rw [if_pos q, fd2 (by omega), bsm]
      dsimp only
      by_cases q2 : N 1 (120 + 7 * i + 2) < day
      · rw [if_pos q2]
        exact b52 0 (by rw [if_pos q2])
      · rw [if_neg q2]
        exact b52 y (by rw [if_neg q2])
  exact key n FU 0 (by omega) (by unfold FU; omega)
