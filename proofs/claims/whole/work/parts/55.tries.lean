/-! THE MATCH: trying -/
abbrev PN (ot : Nat) (x y : Int32) : Prop := x = uc y ∧ -1 ≤ y.toInt ∧ y.toInt < (ot : Int)
def TR (on ot i : Nat) (M N : Mem) : Prop := M 5 3 = nI on ∧ M 5 4 = nI ot ∧ N 0 32 = nI on ∧ N 0 33 = nI ot ∧ M 5 0 = N 0 36 ∧ M 5 1 = N 0 37 ∧ (-1 ≤ (N 0 36).toInt ∧ (N 0 36).toInt ≤ 5) ∧ (∀ a b, a < on → b < ot → M 7 (5 * a + b) = uc (N 15 (5 * a + b)) ∧ -1 ≤ (N 15 (5 * a + b)).toInt) ∧ (0 ≤ (N 0 36).toInt → ∀ k, k < on → PN ot (M 6 k) (N 17 k)) ∧ ∀ k, k < i → PN ot (M 8 k) (N 16 k)
def FrC (M M' : Mem) : Prop := ∀ x, x ≠ 5 → x ≠ 6 → x ≠ 8 → M' x = M x
def FrM (N N' : Mem) : Prop := (∀ x, x ≠ 0 → x ≠ 16 → x ≠ 17 → N' x = N x) ∧ ∀ k, k ≠ 36 → k ≠ 37 → N' 0 k = N 0 k
theorem FrC.tr {M M' M'' : Mem} (h : FrC M M') (h' : FrC M' M'') : FrC M M'' := fun x a b c => (h' x a b c).trans (h x a b c)
theorem FrM.tr {M M' M'' : Mem} (h : FrM M M') (h' : FrM M' M'') : FrM M M'' := ⟨fun x a b c => (h'.1 x a b c).trans (h.1 x a b c), fun k a b => (h'.2 k a b).trans (h.2 k a b)⟩
theorem TR.less {on ot i j : Nat} {M N : Mem} (h : TR on ot i M N) (hj : j ≤ i) : TR on ot j M N := ⟨h.1, h.2.1, h.2.2.1, h.2.2.2.1, h.2.2.2.2.1, h.2.2.2.2.2.1, h.2.2.2.2.2.2.1, h.2.2.2.2.2.2.2.1, h.2.2.2.2.2.2.2.2.1, fun k hk => h.2.2.2.2.2.2.2.2.2 k (by omega)⟩
theorem uc_nI {k : Nat} (h : k < 2 ^ 31) : uc (nI k) = nI k := by
  unfold uc
  rw [if_pos (by rw [i_le, i_0, nI_toInt h]; omega)]
theorem TR.now {on ot i : Nat} {M N : Mem} (h : TR on ot i M N) {x y : Int32} (hp : PN ot x y) : TR on ot (i + 1) (mset M 8 i x) (mset N 16 i y) := by
  obtain ⟨h1, h2, h3, h4, h5, h6, h7, h8, h9, h10⟩ := h
  unfold TR
  rw [mset_ne (show (5 : Nat) ≠ 8 by omega), mset_ne (show (0 : Nat) ≠ 16 by omega), mset_ne (show (7 : Nat) ≠ 8 by omega), mset_ne (show (15 : Nat) ≠ 16 by omega), mset_ne (show (6 : Nat) ≠ 8 by omega), mset_ne (show (17 : Nat) ≠ 16 by omega)]
  refine ⟨h1, h2, h3, h4, h5, h6, h7, h8, h9, fun k hk => ?_⟩
  by_cases q : k = i
  · subst q
    rw [mset_at, mset_at]
    exact hp
  · rw [mset_k q, mset_k q]
    exact h10 k (by omega)
theorem bitfree (tk : Int32) {j : Nat} (hj : j < 5) : (tk &&& ((1 : Int32) <<< (nI j &&& 31)) = 0) ↔ ((tk >>> (nI j &&& 31)) &&& (1 : Int32) = 0) := by
  have b1 : ∀ i, i < 32 → bt 1 i = decide (i = 0) := by decide +kernel
  have z : ∀ x : Int32, x = 0 ↔ ∀ i, i < 32 → bt x i = false := fun x => ⟨fun h i _ => by rw [h]; exact b_0 i, fun h => b_ext (fun i hi => by rw [h i hi, b_0])⟩
  rw [z, z]
  constructor
  · intro h i hi
    rw [b_and, b_sshr j (by omega) tk hi, b1 i hi]
    by_cases q : i = 0
    · subst q
      have := h j (by omega)
      rw [b_and, b_shl j (by omega) 1 (by omega), b1 _ (by omega)] at this
      rw [if_pos (by omega), Nat.add_zero]
      simpa using this
    · rw [decide_eq_false q, Bool.and_false]
  · intro h i hi
    rw [b_and, b_shl j (by omega) 1 hi, b1 _ (by omega)]
    by_cases q : i = j
    · subst q
      have := h 0 (by omega)
      rw [b_and, b_sshr i (by omega) tk (by omega), b1 0 (by omega), if_pos (by omega), Nat.add_zero] at this
      simpa using this
    · by_cases q2 : i < j
      · rw [decide_eq_false (show ¬ j ≤ i by omega), Bool.false_and, Bool.and_false]
      · rw [decide_eq_false (show ¬ i - j = 0 by omega), Bool.and_false, Bool.and_false]
/-- where it can't reach as many pairs the model tries for nothing -/
theorem tn_eq {on ot : Nat} (hon : on ≤ 5) (hot : ot ≤ 5) : ∀ (r d i pr : Nat) (sm tk : Int32) (N : Mem), i + r = on → r < d → N 0 32 = nI on → N 0 33 = nI ot → ((pr + r : Nat) : Int) < (N 0 36).toInt → pr ≤ i → ∃ N', G_X10_tries d (nI i) (nI pr) sm tk N = some (0, N') ∧ (∀ x, x ≠ 16 → N' x = N x) ∧ ∀ k, k < i → N' 16 k = N 16 k := by
  intro r
  induction r with
  | zero =>
    intro d i pr sm tk N hi hd e1 e2 hp hpi
    obtain ⟨d, rfl⟩ : ∃ d', d = d' + 1 := ⟨d - 1, by omega⟩
    have : i = on := by omega
    subst this
    rw [G_X10_tries, f_X10_tries_b0, e1, if_pos rfl, if_neg (by rw [i_lt, nI_toInt (by omega)]; omega), if_neg (by rw [i_eq, nI_toInt (by omega)]; omega)]
    exact ⟨N, rfl, fun _ _ => rfl, fun _ _ => rfl⟩
  | succ r ih =>
    intro d i pr sm tk N hi hd e1 e2 hp hpi
    obtain ⟨d, rfl⟩ : ∃ d', d = d' + 1 := ⟨d - 1, by omega⟩
    have i5 : ixb (nI i) 5 = true := ixb_t (by omega) (by omega)
    have key : ∀ (s fuel j : Nat) (N1 : Mem), j + s = ot → s < fuel → (∀ x, x ≠ 16 → N1 x = N x) → (∀ k, k < i → N1 16 k = N 16 k) → ∃ N', f_X10_tries_b78 (G_X10_tries d) fuel (nI i) (nI pr) sm tk (nI j) N1 = some (0, N') ∧ (∀ x, x ≠ 16 → N' x = N x) ∧ ∀ k, k < i → N' 16 k = N 16 k := by
      intro s
      induction s with
      | zero =>
        intro fuel j N1 hj hf g1 g2
        obtain ⟨f, rfl⟩ : ∃ f, fuel = f + 1 := ⟨fuel - 1, by omega⟩
        have : j = ot := by omega
        subst this
        obtain ⟨N2, a1, a2, a3⟩ := ih d (i + 1) pr sm tk (mset N1 16 i (-1)) (by omega) (by omega) (by rw [mset_ne (by omega), g1 0 (by omega)]; exact e1) (by rw [mset_ne (by omega), g1 0 (by omega)]; exact e2) (by rw [mset_ne (by omega), g1 0 (by omega)]; omega) (by omega)
        rw [f_X10_tries_b78, g1 0 (by omega), e2, if_pos (nI_le (Nat.le_refl _) (by omega)), f_X10_tries_b155, if_pos i5, nI_1, ix_nI (by omega), a1, Option.bind_some]
        exact ⟨N2, rfl, fun x hx => by rw [a2 x hx, mset_ne hx]; exact g1 x hx, fun k hk => by rw [a3 k (by omega), mset_k (by omega)]; exact g2 k hk⟩
      | succ s ihs =>
        intro fuel j N1 hj hf g1 g2
        obtain ⟨f, rfl⟩ : ∃ f, fuel = f + 1 := ⟨fuel - 1, by omega⟩
        have i25 : ixb (nI (5 * i + j)) 25 = true := ixb_t (by omega) (by omega)
        have next : ∀ N2 : Mem, (∀ x, x ≠ 16 → N2 x = N x) → (∀ k, k < i → N2 16 k = N 16 k) → ∃ N', f_X10_tries_b149 (G_X10_tries d) (f_X10_tries_b78 (G_X10_tries d) f) (nI i) (nI pr) sm tk (nI j) N2 = some (0, N') ∧ (∀ x, x ≠ 16 → N' x = N x) ∧ ∀ k, k < i → N' 16 k = N 16 k := by
          intro N2 b1 b2
          rw [f_X10_tries_b149, nI_1]
          exact ihs f (j + 1) N2 (by omega) (by omega) b1 b2
        rw [f_X10_tries_b78, g1 0 (by omega), e2, if_neg (nI_ge (by omega) (by omega)), show (5 : Int32) * nI i + nI j = nI (5 * i + j) from by rw [i_lit, nI_mul, nI_add]]
        simp only [i25, i5, if_true]
        rw [ix_nI (show 5 * i + j < 2 ^ 31 by omega), ix_nI (show i < 2 ^ 31 by omega)]
        by_cases q1 : (tk >>> (nI j &&& 31)) &&& (1 : Int32) = 0
        · rw [if_pos q1]
          by_cases q2 : N1 15 (5 * i + j) < 0
          · rw [if_pos q2]
            exact next N1 g1 g2
          · obtain ⟨N2, a1, a2, a3⟩ := ih d (i + 1) (pr + 1) (sm + (mset N1 16 i (nI j)) 15 (5 * i + j)) (tk ||| ((1 : Int32) <<< (nI j &&& 31))) (mset N1 16 i (nI j)) (by omega) (by omega) (by rw [mset_ne (by omega), g1 0 (by omega)]; exact e1) (by rw [mset_ne (by omega), g1 0 (by omega)]; exact e2) (by rw [mset_ne (by omega), g1 0 (by omega)]; omega) (by omega)
            rw [if_neg q2, nI_1, nI_1, a1, Option.bind_some]
            exact next N2 (fun x hx => by rw [a2 x hx, mset_ne hx]; exact g1 x hx) (fun k hk => by rw [a3 k (by omega), mset_k (by omega)]; exact g2 k hk)
        · rw [if_neg q1]
          exact next N1 g1 g2
    rw [G_X10_tries, f_X10_tries_b0, e1, if_neg (nI_ne (by omega) (by omega) (by omega))]
    exact key ot FU 0 N (by omega) (by unfold FU; omega) (fun _ _ => rfl) (fun _ _ => rfl)
theorem pb_eq {on : Nat} (hon : on ≤ 5) (K : Int32 → Int32 → Int32 → Int32 → Mem → Option (Int32 × Mem)) {N : Mem} (e1 : N 0 32 = nI on) : ∃ N', f_X10_tries_b45 K FU 0 N = some (0, N') ∧ (∀ k, k < on → N' 17 k = N 16 k) ∧ ∀ x, x ≠ 17 → N' x = N x := by
  have key : ∀ (r fuel i : Nat) (N1 : Mem), i + r = on → r < fuel → (∀ k, k < i → N1 17 k = N 16 k) → (∀ x, x ≠ 17 → N1 x = N x) → ∃ N', f_X10_tries_b45 K fuel (nI i) N1 = some (0, N') ∧ (∀ k, k < on → N' 17 k = N 16 k) ∧ ∀ x, x ≠ 17 → N' x = N x := by
    intro r
    induction r with
    | zero =>
      intro fuel i N1 hi hf g1 g2
      obtain ⟨f, rfl⟩ : ∃ f, fuel = f + 1 := ⟨fuel - 1, by omega⟩
      have : i = on := by omega
      subst this
      rw [f_X10_tries_b45, g2 0 (by omega), e1, if_pos (nI_le (Nat.le_refl _) (by omega))]
      exact ⟨N1, rfl, g1, g2⟩
    | succ r ih =>
      intro fuel i N1 hi hf g1 g2
      obtain ⟨f, rfl⟩ : ∃ f, fuel = f + 1 := ⟨fuel - 1, by omega⟩
      have i5 : ixb (nI i) 5 = true := ixb_t (by omega) (by omega)
      rw [f_X10_tries_b45, g2 0 (by omega), e1, if_neg (nI_ge (by omega) (by omega)), if_pos i5, if_pos i5, ix_nI (by omega), nI_1]
      refine ih f (i + 1) _ (by omega) (by omega) (fun k hk => ?_) (fun x hx => by rw [mset_ne hx]; exact g2 x hx)
      by_cases q : k = i
      · subst q
        rw [mset_at, g2 16 (by omega)]
      · rw [mset_k q]
        exact g1 k (by omega)
  exact key on FU 0 N (by omega) (by unfold FU; omega) (fun k hk => by omega) (fun _ _ => rfl)
theorem at_eq {on ot : Nat} (hon : on ≤ 5) (hot : ot ≤ 5) : ∀ (r d d' i pr : Nat) (sm tk : Int32) (M N : Mem), i + r = on → r < d → r < d' → pr ≤ i → TR on ot i M N → ∃ M' N', G_X3_attempt d (nI i) tk (nI pr) sm M = some (0, M') ∧ G_X10_tries d' (nI i) (nI pr) sm tk N = some (0, N') ∧ TR on ot i M' N' ∧ FrC M M' ∧ FrM N N' ∧ (pr : Int) ≤ (N' 0 36).toInt := by
  intro r
  induction r with
  | zero =>
    intro d d' i pr sm tk M N hi hd hd' hpi T
    obtain ⟨d, rfl⟩ : ∃ x, d = x + 1 := ⟨d - 1, by omega⟩
    obtain ⟨d', rfl⟩ : ∃ x, d' = x + 1 := ⟨d' - 1, by omega⟩
    have : i = on := by omega
    subst this
    obtain ⟨h1, h2, h3, h4, h5, h6, h7, h8, h9, h10⟩ := id T
    have keep : ∃ M' N', f_X3_keepBetter_b24 (nI pr) sm M = some (0, M') ∧ f_X10_tries_b32 (G_X10_tries d') (nI pr) sm N = some (0, N') ∧ TR i ot i M' N' ∧ FrC M M' ∧ FrM N N' ∧ (pr : Int) ≤ (N' 0 36).toInt := by
      obtain ⟨N', a1, a2, a3⟩ := pb_eq hon (G_X10_tries d') (N := mset (mset N 0 36 (nI pr)) 0 37 sm) (by rw [mset_k (by omega), mset_k (by omega)]; exact h3)
      have a2 : ∀ k, k < i → N' 17 k = N 16 k := fun k hk => by rw [a2 k hk, mset_ne (by omega), mset_ne (by omega)]
      have n36 : N' 0 36 = nI pr := by rw [a3 0 (by omega), mset_k (by omega), mset_at]
      have n37 : N' 0 37 = sm := by rw [a3 0 (by omega), mset_at]
      have nk : ∀ k, k ≠ 36 → k ≠ 37 → N' 0 k = N 0 k := fun k y1 y2 => by rw [a3 0 (by omega), mset_k y2, mset_k y1]
      have nx : ∀ x, x ≠ 0 → x ≠ 17 → N' x = N x := fun x y1 y2 => by rw [a3 x y2, mset_ne y1, mset_ne y1]
      have e3 : mset (mset M 5 0 (nI pr)) 5 1 sm 5 3 = nI i := by rw [mset_k (by omega), mset_k (by omega)]; exact h1
      have hcp : cpyb (0 : Int32) (0 : Int32) (nI i) 5 5 = true := by
        unfold cpyb
        rw [nI_toInt (by omega), ix_nI (by omega)]
        exact decide_eq_true ⟨by decide, by decide, by omega, by rw [ixc.1]; omega, by rw [ixc.1]; omega⟩
      rw [f_X3_keepBetter_b24, e3, if_pos hcp, f_X10_tries_b32, a1, ixc.1, ix_nI (by omega)]
      refine ⟨_, N', rfl, rfl, ?_, fun x y1 y2 y3 => by rw [mcpy_ne y2, mset_ne y1, mset_ne y1], ⟨fun x y1 y2 y3 => nx x y1 y3, nk⟩, by rw [n36, nI_toInt (by omega)]; omega⟩
      have m5 : ∀ k, mcpy (mset (mset M 5 0 (nI pr)) 5 1 sm) 8 0 6 0 i 5 k = mset (mset M 5 0 (nI pr)) 5 1 sm 5 k := fun k => by rw [mcpy_ne (by omega)]
      have mx : ∀ x, x ≠ 5 → x ≠ 6 → mcpy (mset (mset M 5 0 (nI pr)) 5 1 sm) 8 0 6 0 i x = M x := fun x y1 y2 => by rw [mcpy_ne y2, mset_ne y1, mset_ne y1]
      refine ⟨by rw [m5]; exact e3, by rw [m5, mset_k (by omega), mset_k (by omega)]; exact h2, by rw [nk 32 (by omega) (by omega)]; exact h3, by rw [nk 33 (by omega) (by omega)]; exact h4, by rw [m5, n36, mset_k (by omega), mset_at], by rw [m5, n37, mset_at], by rw [n36, nI_toInt (by omega)]; omega, fun a b y1 y2 => by rw [mx 7 (by omega) (by omega), nx 15 (by omega) (by omega)]; exact h8 a b y1 y2, fun _ k hk => ?_, fun k hk => by rw [mx 8 (by omega) (by omega), nx 16 (by omega) (by omega)]; exact h10 k hk⟩
      rw [a2 k hk, mcpy_r, if_pos ⟨rfl, hk⟩, mset_ne (by omega), mset_ne (by omega)]
      exact h10 k hk
    have stay : (pr : Int) ≤ (N 0 36).toInt → ∃ M' N', some ((0 : Int32), M) = some (0, M') ∧ some ((0 : Int32), N) = some (0, N') ∧ TR i ot i M' N' ∧ FrC M M' ∧ FrM N N' ∧ (pr : Int) ≤ (N' 0 36).toInt := fun y => ⟨M, N, rfl, rfl, T, fun _ _ _ _ => rfl, ⟨fun _ _ _ _ => rfl, fun _ _ _ => rfl⟩, y⟩
    have e0 : nI pr + nI i - nI i = nI pr := by rw [nI_add, pk_sub (by omega)]; congr 1; omega
    rw [G_X3_attempt, G_X10_tries, f_X3_attempt_b0, f_X10_tries_b0, h1, h3, e0, h5, if_neg (nI_nlt (Nat.le_refl i) (by omega)), if_pos rfl]
    by_cases q1 : N 0 36 < nI pr
    · have l1 : N 0 36 ≤ nI pr := by rw [i_lt] at q1; rw [i_le]; omega
      obtain ⟨M', N', b1, b2, b3⟩ := keep
      rw [if_pos l1, if_pos q1, f_X3_keepBetter, f_X3_keepBetter_b0, h5, if_pos q1, b1, b2, Option.bind_some]
      exact ⟨M', N', rfl, rfl, b3⟩
    · by_cases q2 : nI pr = N 0 36
      · have l1 : N 0 36 ≤ nI pr := by rw [i_le, q2]; exact Int.le_refl _
        rw [if_pos l1, if_neg q1, if_pos q2, f_X3_keepBetter, f_X3_keepBetter_b0, h5, if_neg q1, if_pos q2, h6]
        by_cases q3 : N 0 37 ≤ sm
        · rw [if_pos q3, if_pos q3, Option.bind_some]
          exact stay (by rw [← q2, nI_toInt (by omega)]; omega)
        · obtain ⟨M', N', b1, b2, b3⟩ := keep
          rw [if_neg q3, if_neg q3, b1, b2, Option.bind_some]
          exact ⟨M', N', rfl, rfl, b3⟩
      · have l1 : ¬ N 0 36 ≤ nI pr := by
          rw [i_lt] at q1
          rw [i_eq] at q2
          rw [i_le]
          omega
        rw [if_neg l1, if_neg q1, if_neg q2]
        exact stay (by rw [i_lt, nI_toInt (by omega)] at q1; omega)
  | succ r ih =>
    intro d d' i pr sm tk M N hi hd hd' hpi T
    obtain ⟨h1, h2, h3, h4, h5, h6, h7, h8, h9, h10⟩ := id T
    have e0 : nI pr + nI on - nI i = nI (pr + (r + 1)) := by rw [nI_add, pk_sub (by omega)]; congr 1; omega
    by_cases hp : (N 0 36).toInt ≤ ((pr + (r + 1) : Nat) : Int)
    rotate_left
    · obtain ⟨N', a1, a2, a3⟩ := tn_eq hon hot (r + 1) d' i pr sm tk N hi hd' h3 h4 (by omega) hpi
      obtain ⟨d, rfl⟩ : ∃ x, d = x + 1 := ⟨d - 1, by omega⟩
      rw [G_X3_attempt, f_X3_attempt_b0, h1, h5, e0, if_neg (by rw [i_le, nI_toInt (by omega)]; omega), a1]
      have n0 := a2 0 (by omega)
      refine ⟨M, N', rfl, rfl, ⟨h1, h2, by rw [n0]; exact h3, by rw [n0]; exact h4, by rw [n0]; exact h5, by rw [n0]; exact h6, by rw [n0]; exact h7, by rw [a2 15 (by omega)]; exact h8, by rw [n0, a2 17 (by omega)]; exact h9, fun k hk => by rw [a3 k hk]; exact h10 k hk⟩, fun _ _ _ _ => rfl, ⟨fun x _ y _ => a2 x y, fun k _ _ => by rw [n0]⟩, by rw [n0]; omega⟩
    obtain ⟨d, rfl⟩ : ∃ x, d = x + 1 := ⟨d - 1, by omega⟩
    obtain ⟨d', rfl⟩ : ∃ x, d' = x + 1 := ⟨d' - 1, by omega⟩
    have i5 : ixb (nI i) 5 = true := ixb_t (by omega) (by omega)
    have key : ∀ (s fuel j : Nat) (M1 N1 : Mem), j + s = ot → s < fuel → TR on ot i M1 N1 → FrC M M1 → FrM N N1 → ∃ M' N', f_X3_attempt_b35 (G_X3_attempt d) fuel (nI i) tk (nI pr) sm (nI j) M1 = some (0, M') ∧ f_X10_tries_b78 (G_X10_tries d') fuel (nI i) (nI pr) sm tk (nI j) N1 = some (0, N') ∧ TR on ot i M' N' ∧ FrC M M' ∧ FrM N N' ∧ (pr : Int) ≤ (N' 0 36).toInt := by
      intro s
      induction s with
      | zero =>
        intro fuel j M1 N1 hj hf T1 F1 F2
        obtain ⟨f, rfl⟩ : ∃ f, fuel = f + 1 := ⟨fuel - 1, by omega⟩
        have : j = ot := by omega
        subst this
        have T2 := T1.now (x := -1000000005) (y := -1) ⟨by decide, by decide, by rw [show (-1 : Int32).toInt = -1 from by decide]; omega⟩
        obtain ⟨M2, N2, a1, a2, a3, a4, a5, a6⟩ := ih d d' (i + 1) pr sm tk _ _ (by omega) (by omega) (by omega) (by omega) T2
        obtain ⟨g1, g2, g3, g4, -⟩ := T1
        rw [f_X3_attempt_b35, f_X10_tries_b78, g2, g4, if_pos (nI_le (Nat.le_refl _) (by omega)), if_pos (nI_le (Nat.le_refl _) (by omega)), f_X3_attempt_b108, f_X10_tries_b155, if_pos i5, if_pos i5, nI_1, ix_nI (by omega), a1, a2, Option.bind_some, Option.bind_some]
        exact ⟨M2, N2, rfl, rfl, a3.less (by omega), F1.tr (fun x y1 y2 y3 => by rw [a4 x y1 y2 y3, mset_ne y3]), F2.tr ⟨fun x y1 y2 y3 => by rw [a5.1 x y1 y2 y3, mset_ne y2], fun k y1 y2 => by rw [a5.2 k y1 y2, mset_ne (by omega)]⟩, a6⟩
      | succ s ihs =>
        intro fuel j M1 N1 hj hf T1 F1 F2
        obtain ⟨f, rfl⟩ : ∃ f, fuel = f + 1 := ⟨fuel - 1, by omega⟩
        have i25 : ixb (nI (5 * i + j)) 25 = true := ixb_t (by omega) (by omega)
        obtain ⟨g1, g2, g3, g4, g5, g6, g7, g8, g9, g10⟩ := id T1
        obtain ⟨k8, k8'⟩ := g8 i j (by omega) (by omega)
        have un := uc_none k8'
        have bf := bitfree tk (j := j) (by omega)
        have next : ∀ M2 N2 : Mem, TR on ot i M2 N2 → FrC M M2 → FrM N N2 → ∃ M' N', f_X3_attempt_b102 (G_X3_attempt d) (f_X3_attempt_b35 (G_X3_attempt d) f) (nI i) tk (nI pr) sm (nI j) M2 = some (0, M') ∧ f_X10_tries_b149 (G_X10_tries d') (f_X10_tries_b78 (G_X10_tries d') f) (nI i) (nI pr) sm tk (nI j) N2 = some (0, N') ∧ TR on ot i M' N' ∧ FrC M M' ∧ FrM N N' ∧ (pr : Int) ≤ (N' 0 36).toInt := by
          intro M2 N2 b1 b2 b3
          rw [f_X3_attempt_b102, f_X10_tries_b149, nI_1]
          exact ihs f (j + 1) M2 N2 (by omega) (by omega) b1 b2 b3
        rw [f_X3_attempt_b35, f_X10_tries_b78, g2, g4, if_neg (nI_ge (by omega) (by omega)), if_neg (nI_ge (by omega) (by omega)), show (5 : Int32) * nI i + nI j = nI (5 * i + j) from by rw [i_lit, nI_mul, nI_add], show nI i * (5 : Int32) + nI j = nI (5 * i + j) from by rw [i_lit, nI_mul, nI_add, Nat.mul_comm]]
        simp only [i25, i5, if_true]
        rw [ix_nI (show 5 * i + j < 2 ^ 31 by omega), ix_nI (show i < 2 ^ 31 by omega), k8]
        by_cases q2 : N1 15 (5 * i + j) < 0
        · rw [if_pos (un.mpr q2), if_pos q2]
          split <;> exact next M1 N1 T1 F1 F2
        · rw [if_neg (fun y => q2 (un.mp y)), if_neg q2]
          have uv : uc (N1 15 (5 * i + j)) = N1 15 (5 * i + j) := by
            unfold uc
            rw [if_pos (by rw [i_lt, i_0] at q2; rw [i_le, i_0]; omega)]
          by_cases q1 : tk &&& ((1 : Int32) <<< (nI j &&& 31)) = 0
          · have T2 := T1.now (x := nI j) (y := nI j) ⟨(uc_nI (by omega)).symm, by rw [nI_toInt (by omega)]; omega, by rw [nI_toInt (by omega)]; omega⟩
            obtain ⟨M2, N2, a1, a2, a3, a4, a5, a6⟩ := ih d d' (i + 1) (pr + 1) (sm + N1 15 (5 * i + j)) (tk ||| ((1 : Int32) <<< (nI j &&& 31))) _ _ (by omega) (by omega) (by omega) (by omega) T2
            rw [if_pos q1, if_pos (bf.mp q1), uv, mset_ne (show (15 : Nat) ≠ 16 by omega), nI_1, nI_1, a1, a2, Option.bind_some, Option.bind_some]
            exact next M2 N2 (a3.less (by omega)) (F1.tr (fun x y1 y2 y3 => by rw [a4 x y1 y2 y3, mset_ne y3])) (F2.tr ⟨fun x y1 y2 y3 => by rw [a5.1 x y1 y2 y3, mset_ne y2], fun k y1 y2 => by rw [a5.2 k y1 y2, mset_ne (by omega)]⟩)
          · rw [if_neg q1, if_neg (fun y => q1 (bf.mpr y))]
            exact next M1 N1 T1 F1 F2
    rw [G_X3_attempt, G_X10_tries, f_X3_attempt_b0, f_X10_tries_b0, h1, h3, h5, e0, if_pos (by rw [i_le, nI_toInt (by omega)]; omega), if_pos (nI_lt (by omega) (by omega)), if_neg (nI_ne (by omega) (by omega) (by omega))]
    exact key ot FU 0 M N (by omega) (by unfold FU; omega) T (fun _ _ _ _ => rfl) ⟨fun _ _ _ _ => rfl, fun _ _ _ => rfl⟩
