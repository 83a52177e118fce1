/-! SMOOTH -/
abbrev fogP (R : Row) (so : Int32) (j : Nat) : Prop := so = 1 ∧ R j = (-1000000005 : Int32)
def smV (R : Row) (so : Int32) (n j : Nat) : Int32 := if 1 ≤ j ∧ j + 1 < n ∧ ¬ fogP R so (j - 1) ∧ ¬ fogP R so j ∧ ¬ fogP R so (j + 1) then (((R (j - 1)).toInt64 + (R j).toInt64 + (R (j + 1)).toInt64) / (3 : Int64)).toInt32 else R j
def smC (R : Row) (so : Int32) (n : Nat) : Nat → Int32
  | 0 => 0
  | i + 1 => smC R so n i + (if smV R so n i = R i then 0 else 1)
theorem smV_0 (R : Row) (so : Int32) (n : Nat) : smV R so n 0 = R 0 := by rw [smV, if_neg (by omega)]
theorem smC_1 (R : Row) (so : Int32) (n : Nat) : smC R so n 1 = 0 := by
  show (0 : Int32) + (if smV R so n 0 = R 0 then 0 else 1) = 0
  rw [if_pos (smV_0 R so n)]
  rfl
theorem isFog_eq (a : Nat) (x : Int32) (M : Mem) : f_X6_isFog a x M = some (b2i (M a 0 = 1 ∧ x = (-1000000005 : Int32)), M) := by
  unfold f_X6_isFog f_X6_isFog_b0 b2i
  by_cases h1 : M a 0 = 1
  · by_cases h2 : x = (-1000000005 : Int32)
    · rw [if_pos h1, if_pos h2, if_pos ⟨h1, h2⟩]
    · rw [if_pos h1, if_neg h2, if_neg (fun q => h2 q.2)]
  · rw [if_neg h1, if_neg (fun q => h1 q.1)]
theorem smo_C {M : Mem} {k n : Nat} (hk : k < 4) {so : Int32} {R : Row} (e0 : M (112 + 2 * k) 0 = so) (e1 : M (112 + 2 * k) 1 = nI n) (hn : n ≤ 24) (eR : ∀ j, j < 24 → M (113 + 2 * k) j = R j) : ∃ M', f_X6_smoothen (112 + 2 * k) M = some (smC R so n (max 1 (n - 1)), M') ∧ (∀ j, j < 24 → M' (113 + 2 * k) j = smV R so n j) ∧ ∀ x, x ≠ 113 + 2 * k → M' x = M x := by
  obtain ⟨-, r2⟩ := rf_sh k hk
  have key : ∀ (r fuel i : Nat) (M1 : Mem), n ≤ i + 1 + r → r < fuel → 1 ≤ i → i ≤ max 1 (n - 1) → (∀ j, j < i → j < 24 → M1 (113 + 2 * k) j = smV R so n j) → (∀ j, i ≤ j → j < 24 → M1 (113 + 2 * k) j = R j) → (∀ x, x ≠ 113 + 2 * k → M1 x = M x) → ∃ M', f_X6_smoothen_b11 fuel (112 + 2 * k) (smC R so n i) (R (i - 1)) (nI i) M1 = some (smC R so n (max 1 (n - 1)), M') ∧ (∀ j, j < 24 → M' (113 + 2 * k) j = smV R so n j) ∧ ∀ x, x ≠ 113 + 2 * k → M' x = M x := by
    intro r
    induction r with
    | zero =>
      intro fuel i M1 hi hf h1 h2 hA hB hF
      obtain ⟨f, rfl⟩ : ∃ f, fuel = f + 1 := ⟨fuel - 1, by omega⟩
      have : i = max 1 (n - 1) := by omega
      rw [f_X6_smoothen_b11, hF _ (by omega), e1, if_pos (by rw [i_le, i_pred (by omega), nI_toInt (by omega)]; omega), ← this]
      refine ⟨M1, rfl, fun j hj => ?_, hF⟩
      by_cases q : j < i
      · exact hA j q hj
      · rw [hB j (by omega) hj, smV, if_neg (by omega)]
    | succ r ih =>
      intro fuel i M1 hi hf h1 h2 hA hB hF
      by_cases hend : n ≤ i + 1 + r
      · exact ih fuel i M1 hend (by omega) h1 h2 hA hB hF
      obtain ⟨f, rfl⟩ : ∃ f, fuel = f + 1 := ⟨fuel - 1, by omega⟩
      have c1 : ¬ nI n - 1 ≤ nI i := by rw [i_le, i_pred (by omega), nI_toInt (by omega)]; omega
      have g0 : M1 (112 + 2 * k) 0 = so := by rw [hF _ (by omega)]; exact e0
      have b86 : ∀ (M2 : Mem), M2 (113 + 2 * k) i = smV R so n i → (∀ j, j ≠ i → M2 (113 + 2 * k) j = M1 (113 + 2 * k) j) → (∀ x, x ≠ 113 + 2 * k → M2 x = M x) → ∃ M', f_X6_smoothen_b86 (f_X6_smoothen_b11 f) (112 + 2 * k) (smC R so n i) (nI i) (R i) M2 = some (smC R so n (max 1 (n - 1)), M') ∧ (∀ j, j < 24 → M' (113 + 2 * k) j = smV R so n j) ∧ ∀ x, x ≠ 113 + 2 * k → M' x = M x := by
        intro M2 p1 p2 p3
        have := ih f (i + 1) M2 (by omega) (by omega) (by omega) (by omega) (fun j hj hj2 => by
          by_cases q : j = i
          · subst q; exact p1
          · rw [p2 j q]; exact hA j (by omega) hj2) (fun j hj hj2 => by rw [p2 j (by omega)]; exact hB j (by omega) hj2) p3
        rw [show i + 1 - 1 = i from by omega, smC] at this
        rw [f_X6_smoothen_b86, if_pos (ixb_t (show i < 24 by omega) (by omega)), ix_nI (by omega), r2, p1]
        by_cases q : smV R so n i = R i
        · rw [if_pos q, f_X6_smoothen_b103, nI_1]
          rw [if_pos q] at this
          exact this
        · rw [if_neg q, f_X6_smoothen_b103, nI_1]
          rw [if_neg q] at this
          exact this
      rw [f_X6_smoothen_b11, hF (112 + 2 * k) (by omega), e1, if_neg c1, nI_1, if_pos (ixb_t (show i < 24 by omega) (by omega)), if_pos (ixb_t (show i + 1 < 24 by omega) (by omega)), ix_nI (by omega), ix_nI (by omega), r2, hB i (by omega) (by omega), hB (i + 1) (by omega) (by omega)]
      simp only [isFog_eq, Option.bind_some, b2i_eq0, g0]
      by_cases q1 : fogP R so (i - 1)
      · rw [if_neg (nn q1)]
        exact b86 M1 (by rw [hB i (by omega) (by omega), smV, if_neg (fun z => z.2.2.1 q1)]) (fun _ _ => rfl) hF
      · rw [if_pos q1]
        by_cases q2 : fogP R so i
        · rw [if_neg (nn q2)]
          exact b86 M1 (by rw [hB i (by omega) (by omega), smV, if_neg (fun z => z.2.2.2.1 q2)]) (fun _ _ => rfl) hF
        · rw [if_pos q2]
          by_cases q3 : fogP R so (i + 1)
          · rw [if_neg (nn q3)]
            exact b86 M1 (by rw [hB i (by omega) (by omega), smV, if_neg (fun z => z.2.2.2.2 q3)]) (fun _ _ => rfl) hF
          · rw [if_pos q3, if_pos (ixb_t (show i < 24 by omega) (by omega))]
            refine b86 _ ?_ (fun j hj => ?_) (fun x hx => ?_)
            · rw [mset_at, smV, if_pos ⟨h1, by omega, q1, q2, q3⟩]
            · rw [mset_k hj]
            · rw [mset_ne hx]; exact hF x hx
  have := key (n + 1) FU 1 M (by omega) (by unfold FU; omega) (by omega) (by omega) (fun j hj _ => by
    have : j = 0 := by omega
    subst this
    rw [eR 0 (by omega), smV, if_neg (by omega)]) (fun j _ hj => eR j hj) (fun _ _ => rfl)
  rw [smC_1] at this
  rw [f_X6_smoothen, f_X6_smoothen_b0, r2, eR 0 (by omega)]
  exact this
theorem i24 {k j : Nat} : (24 : Int32) * nI k + nI j = nI (24 * k + j) := by rw [i_lit, nI_mul, nI_add]
theorem isNumber_eq {N : Mem} {k j : Nat} (hk : k < 4) (hj : j < 24) (hs : N 4 k = 0 ∨ N 4 k = 1) : f_X10_isNumber (nI k) (nI j) N = some (b2i (¬ fogP (fun j => N 6 (24 * k + j)) (N 4 k) j), N) := by
  unfold f_X10_isNumber f_X10_isNumber_b0 f_X10_isNumber_b25 b2i
  rw [if_pos (ixb_t hk (by omega)), ix_nI (by omega), i24, if_pos (ixb_t (show 24 * k + j < 96 by omega) (by omega)), ix_nI (by omega)]
  rcases hs with hs | hs
  · rw [if_pos hs, if_pos (fun q => absurd (hs.symm.trans q.1) (by decide))]
  · rw [if_neg (by rw [hs]; decide)]
    by_cases q : N 6 (24 * k + j) = (-1000000005 : Int32)
    · rw [if_pos q, if_neg (nn ⟨hs, q⟩)]
    · rw [if_neg q, if_pos (fun z => q z.2)]
theorem smo_M {N : Mem} {k n : Nat} (hk : k < 4) (hs : N 4 k = 0 ∨ N 4 k = 1) (e1 : N 5 k = nI n) (hn : n ≤ 24) : ∃ N', f_X10_smooth_b27 FU (nI k) 0 0 N = some (smC (fun j => N 6 (24 * k + j)) (N 4 k) n (max 1 (n - 1)), N') ∧ (∀ j, j < 24 → N' 6 (24 * k + j) = smV (fun j => N 6 (24 * k + j)) (N 4 k) n j) ∧ (∀ j, (j < 24 * k ∨ 24 * k + 24 ≤ j) → N' 6 j = N 6 j) ∧ ∀ x, x ≠ 6 → x ≠ 20 → N' x = N x := by
  generalize hR : (fun j => N 6 (24 * k + j)) = R
  have hR : ∀ j, N 6 (24 * k + j) = R j := fun j => by rw [← hR]
  generalize hso : N 4 k = so at hs ⊢
  have hk4 := ixb_t hk (show 4 < 2 ^ 31 by omega)
  -- the last loop
  have k3 : ∀ (r fuel i : Nat) (x2 : Int32) (N1 : Mem), i + r = n → r < fuel → (∀ j, j < n → N1 20 j = smV R so n j) → (∀ j, j < i → N1 6 (24 * k + j) = smV R so n j) → (∀ j, (j < 24 * k + 0 ∨ 24 * k + i ≤ j) → N1 6 j = N 6 j) → (∀ x, x ≠ 6 → x ≠ 20 → N1 x = N x) → ∃ N', f_X10_smooth_b198 fuel (nI k) x2 (nI i) N1 = some (x2, N') ∧ (∀ j, j < 24 → N' 6 (24 * k + j) = smV R so n j) ∧ (∀ j, (j < 24 * k ∨ 24 * k + 24 ≤ j) → N' 6 j = N 6 j) ∧ ∀ x, x ≠ 6 → x ≠ 20 → N' x = N x := by
    intro r
    induction r with
    | zero =>
      intro fuel i x2 N1 hi hf hC hA hB hF
      obtain ⟨f, rfl⟩ : ∃ f, fuel = f + 1 := ⟨fuel - 1, by omega⟩
      have : i = n := by omega
      subst this
      rw [f_X10_smooth_b198, if_pos hk4, ix_nI (by omega), hF 5 (by omega) (by omega), e1, if_pos (nI_le (Nat.le_refl _) (by omega))]
      refine ⟨N1, rfl, fun j hj => ?_, fun j hj => hB j (by omega), hF⟩
      by_cases q : j < i
      · exact hA j q
      · rw [hB _ (by omega), hR, smV, if_neg (by omega)]
    | succ r ih =>
      intro fuel i x2 N1 hi hf hC hA hB hF
      obtain ⟨f, rfl⟩ : ∃ f, fuel = f + 1 := ⟨fuel - 1, by omega⟩
      rw [f_X10_smooth_b198, if_pos hk4, ix_nI (by omega), hF 5 (by omega) (by omega), e1, if_neg (nI_ge (by omega) (by omega)), if_pos (ixb_t (show i < 24 by omega) (by omega)), i24, if_pos (ixb_t (show 24 * k + i < 96 by omega) (by omega)), ix_nI (by omega), ix_nI (by omega), nI_1]
      refine ih f (i + 1) x2 _ (by omega) (by omega) (fun j hj => ?_) (fun j hj => ?_) (fun j hj => ?_) (fun x h6 h20 => ?_)
      · rw [mset_ne (by omega)]; exact hC j hj
      · by_cases q : j = i
        · subst q; rw [mset_at]; exact hC j (by omega)
        · rw [mset_k (by omega)]; exact hA j (by omega)
      · rw [mset_k (by omega)]; exact hB j (by omega)
      · rw [mset_ne h6]; exact hF x h6 h20
  -- the middle loop
  have k2 : ∀ (r fuel i : Nat) (N1 : Mem), n ≤ i + 1 + r → r < fuel → 1 ≤ i → i ≤ max 1 (n - 1) → (∀ j, j < i → j < n → N1 20 j = smV R so n j) → (∀ j, i ≤ j → j < n → N1 20 j = R j) → (∀ x, x ≠ 20 → N1 x = N x) → ∃ N', f_X10_smooth_b62 fuel (nI k) (smC R so n i) (nI i) N1 = some (smC R so n (max 1 (n - 1)), N') ∧ (∀ j, j < 24 → N' 6 (24 * k + j) = smV R so n j) ∧ (∀ j, (j < 24 * k ∨ 24 * k + 24 ≤ j) → N' 6 j = N 6 j) ∧ ∀ x, x ≠ 6 → x ≠ 20 → N' x = N x := by
    intro r
    induction r with
    | zero =>
      intro fuel i N1 hi hf h1 h2 hA hB hF
      obtain ⟨f, rfl⟩ : ∃ f, fuel = f + 1 := ⟨fuel - 1, by omega⟩
      have : i = max 1 (n - 1) := by omega
      rw [f_X10_smooth_b62, if_pos hk4, ix_nI (by omega), hF 5 (by omega), e1, nI_1, if_pos (nI_le (by omega) (by omega)), f_X10_smooth_b196, ← this]
      exact k3 n FU 0 _ N1 (by omega) (by unfold FU; omega) (fun j hj => by
        by_cases q : j < i
        · exact hA j q hj
        · rw [hB j (by omega) hj, smV, if_neg (by omega)]) (fun j hj => by omega) (fun j hj => by rw [hF 6 (by omega)]) (fun x _ h20 => hF x h20)
    | succ r ih =>
      intro fuel i N1 hi hf h1 h2 hA hB hF
      by_cases hend : n ≤ i + 1 + r
      · exact ih fuel i N1 hend (by omega) h1 h2 hA hB hF
      obtain ⟨f, rfl⟩ : ∃ f, fuel = f + 1 := ⟨fuel - 1, by omega⟩
      have g4 : N1 4 k = so := by rw [hF 4 (by omega)]; exact hso
      have g6 : ∀ j, N1 6 (24 * k + j) = R j := fun j => by rw [hF 6 (by omega)]; exact hR j
      have hnum : ∀ j, j < 24 → f_X10_isNumber (nI k) (nI j) N1 = some (b2i (¬ fogP R so j), N1) := fun j hj => by
        rw [isNumber_eq hk hj (by rw [g4]; exact hs), g4]
        congr 2
        refine b2i_congr ?_
        show ¬ (so = 1 ∧ N1 6 (24 * k + j) = _) ↔ _
        rw [g6]
      have stay : smV R so n i = R i → ∃ N', f_X10_smooth_b190 (f_X10_smooth_b62 f) (nI k) (smC R so n i) (nI i) N1 = some (smC R so n (max 1 (n - 1)), N') ∧ (∀ j, j < 24 → N' 6 (24 * k + j) = smV R so n j) ∧ (∀ j, (j < 24 * k ∨ 24 * k + 24 ≤ j) → N' 6 j = N 6 j) ∧ ∀ x, x ≠ 6 → x ≠ 20 → N' x = N x := by
        intro e
        have := ih f (i + 1) N1 (by omega) (by omega) (by omega) (by omega) (fun j hj hjn => by
          by_cases q : j = i
          · subst q; rw [hB j (by omega) hjn, e]
          · exact hA j (by omega) hjn) (fun j hj hjn => hB j (by omega) hjn) hF
        rw [smC, if_pos e, Int32.add_zero] at this
        rw [f_X10_smooth_b190, nI_1]
        exact this
      rw [f_X10_smooth_b62, if_pos hk4, ix_nI (by omega), hF 5 (by omega), e1, nI_1, if_neg (nI_ge (by omega) (by omega)), show nI i - 1 = nI (i - 1) from by rw [i_lit]; exact pk_sub (by omega)]
      rw [hnum (i - 1) (by omega)]
      simp only [Option.bind_some, b2i_eq0]
      by_cases q1 : fogP R so (i - 1)
      · rw [if_pos (nn q1)]
        exact stay (by rw [smV, if_neg (fun z => z.2.2.1 q1)])
      rw [if_neg (nn q1), hnum i (by omega)]
      simp only [Option.bind_some, b2i_eq0]
      by_cases q2 : fogP R so i
      · rw [if_pos (nn q2)]
        exact stay (by rw [smV, if_neg (fun z => z.2.2.2.1 q2)])
      rw [if_neg (nn q2), hnum (i + 1) (by omega)]
      simp only [Option.bind_some, b2i_eq0]
      by_cases q3 : fogP R so (i + 1)
      · rw [if_pos (nn q3)]
        exact stay (by rw [smV, if_neg (fun z => z.2.2.2.2 q3)])
      rw [if_neg (nn q3), i24, nI_1, show nI (24 * k + i) - 1 = nI (24 * k + (i - 1)) from by rw [i_lit, show 24 * k + (i - 1) = 24 * k + i - 1 from by omega]; exact pk_sub (by omega), if_pos (ixb_t (show 24 * k + (i - 1) < 96 by omega) (by omega)), if_pos (ixb_t (show 24 * k + i < 96 by omega) (by omega)), if_pos (ixb_t (show 24 * k + i + 1 < 96 by omega) (by omega)), ix_nI (by omega), ix_nI (by omega), ix_nI (by omega), g6, g6, show 24 * k + i + 1 = 24 * k + (i + 1) from by omega, g6]
      rw [f_X10_smooth_bc147_1, i24, if_pos (ixb_t (show i < 24 by omega) (by omega)), if_pos (ixb_t (show i < 24 by omega) (by omega)), if_pos (ixb_t (show 24 * k + i < 96 by omega) (by omega)), ix_nI (by omega), ix_nI (by omega), mset_at, mset_ne (show (6 : Nat) ≠ 20 by omega), g6]
      have ev : smV R so n i = (((R (i - 1)).toInt64 + (R i).toInt64 + (R (i + 1)).toInt64) / (3 : Int64)).toInt32 := by rw [smV, if_pos ⟨h1, by omega, q1, q2, q3⟩]
      rw [← ev]
      have fin := ih f (i + 1) (mset N1 20 i (smV R so n i)) (by omega) (by omega) (by omega) (by omega) (fun j hj hjn => by
          by_cases q : j = i
          · subst q; rw [mset_at]
          · rw [mset_k q]; exact hA j (by omega) hjn) (fun j hj hjn => by rw [mset_k (by omega)]; exact hB j (by omega) hjn) (fun x hx => by rw [mset_ne hx]; exact hF x hx)
      rw [smC] at fin
      by_cases q : smV R so n i = R i
      · rw [if_pos q] at fin ⊢
        rw [f_X10_smooth_b188, f_X10_smooth_b190, nI_1]
        exact fin
      · rw [if_neg q] at fin ⊢
        rw [f_X10_smooth_b188, f_X10_smooth_b190, nI_1]
        exact fin
  -- the first loop
  have k1 : ∀ (r fuel i : Nat) (N1 : Mem), i + r = n → r < fuel → (∀ j, j < i → N1 20 j = R j) → (∀ x, x ≠ 20 → N1 x = N x) → ∃ N', f_X10_smooth_b27 fuel (nI k) 0 (nI i) N1 = some (smC R so n (max 1 (n - 1)), N') ∧ (∀ j, j < 24 → N' 6 (24 * k + j) = smV R so n j) ∧ (∀ j, (j < 24 * k ∨ 24 * k + 24 ≤ j) → N' 6 j = N 6 j) ∧ ∀ x, x ≠ 6 → x ≠ 20 → N' x = N x := by
    intro r
    induction r with
    | zero =>
      intro fuel i N1 hi hf hA hF
      obtain ⟨f, rfl⟩ : ∃ f, fuel = f + 1 := ⟨fuel - 1, by omega⟩
      have : i = n := by omega
      subst this
      rw [f_X10_smooth_b27, if_pos hk4, ix_nI (by omega), hF 5 (by omega), e1, if_pos (nI_le (Nat.le_refl _) (by omega)), f_X10_smooth_b60]
      have := k2 (i + 1) FU 1 N1 (by omega) (by unfold FU; omega) (by omega) (by omega) (fun j hj hjn => by
        have : j = 0 := by omega
        subst this
        rw [hA 0 hjn, smV, if_neg (by omega)]) (fun j _ hj => hA j hj) hF
      rw [smC_1] at this
      exact this
    | succ r ih =>
      intro fuel i N1 hi hf hA hF
      obtain ⟨f, rfl⟩ : ∃ f, fuel = f + 1 := ⟨fuel - 1, by omega⟩
      rw [f_X10_smooth_b27, if_pos hk4, ix_nI (by omega), hF 5 (by omega), e1, if_neg (nI_ge (by omega) (by omega)), i24, if_pos (ixb_t (show 24 * k + i < 96 by omega) (by omega)), if_pos (ixb_t (show i < 24 by omega) (by omega)), ix_nI (by omega), ix_nI (by omega), nI_1]
      refine ih f (i + 1) _ (by omega) (by omega) (fun j hj => ?_) (fun x h20 => ?_)
      · by_cases q : j = i
        · subst q; rw [mset_at, hF 6 (by omega)]; exact hR j
        · rw [mset_k q]; exact hA j (by omega)
      · rw [mset_ne h20]; exact hF x h20
  exact k1 n FU 0 N (by omega) (by unfold FU; omega) (fun j hj => by omega) (fun _ _ => rfl)
theorem sort01 {x : Int32} (h : -1 ≤ x.toInt ∧ x.toInt ≤ 1) (q : 0 ≤ x) : x = 0 ∨ x = 1 := by
  rw [i_le, i_0] at q
  by_cases z : x.toInt = 0
  · exact Or.inl (by rw [i_eq]; exact z)
  · refine Or.inr (by rw [i_eq, show (1 : Int32).toInt = 1 from by decide]; omega)
theorem q_smooth {M N : Mem} (h : Rel M N) (x1 : Int32) : Eqv (f_X9_smooth x1 M) (f_X10_smooth x1 N) := by
  unfold f_X9_smooth f_X9_smooth_b0 f_X10_smooth f_X10_smooth_b0
  rw [isBelowN x1 4 4 (by decide), isSheet_eq]
  simp only [Option.bind_some, b2i_eq0]
  by_cases hc : 0 ≤ x1.toInt ∧ x1.toInt < 4
  rotate_left
  · rw [if_pos hc, if_pos (show ¬ (0 ≤ x1.toInt ∧ x1.toInt < 4) by omega)]
    exact ⟨_, M, N, rfl, rfl, h⟩
  rw [if_neg (nn hc), if_neg (nn (show 0 ≤ x1.toInt ∧ x1.toInt < 4 by omega))]
  obtain ⟨k, hk4, rfl⟩ := i_of (n := 4) hc.1 hc.2
  obtain ⟨r1, r2⟩ := rf_sh k hk4
  obtain ⟨s0, s1, sb, ⟨n, hn, en⟩, sr⟩ := h.2.2.2.1 k hk4
  rw [if_pos (ixb_t hk4 (by omega)), if_pos (ixb_t hk4 (by omega)), ix_nI (by omega), r1, isMissing_eq s0 sb]
  simp only [Option.bind_some, b2i_eq0]
  by_cases q : 0 ≤ N 4 k
  rotate_left
  · rw [if_neg (nn q), if_neg q]
    exact ⟨_, M, N, rfl, rfl, h⟩
  rw [if_pos (nn q), if_pos q, if_pos (ixb_t hk4 (by omega))]
  obtain ⟨M', e1, a1, a2⟩ := smo_C (R := fun j => N 6 (24 * k + j)) hk4 s0 (s1.trans en) hn sr
  obtain ⟨N', e2, b1, b2, b3⟩ := smo_M hk4 (sort01 sb q) en hn
  rw [e1, e2]
  simp only [Option.bind_some]
  refine ⟨_, M', N', rfl, rfl, h.she ?_ (fun y p1 p2 => a2 y (by omega)) (fun y p1 p2 p3 p4 => b3 y p4 (by omega)) (by rw [b3 0 (by omega) (by omega)]) (by rw [b3 0 (by omega) (by omega)]) (by rw [b3 0 (by omega) (by omega)])⟩
  rw [b3 4 (by omega) (by omega), b3 5 (by omega) (by omega)]
  refine h.2.2.2.1.one hk4 (fun y p1 p2 => a2 y p2) (fun _ _ => rfl) (fun _ _ => rfl) b2 ⟨by rw [a2 _ (by omega)]; exact s0, by rw [a2 _ (by omega)]; exact s1, sb, ⟨n, hn, en⟩, fun i hi => ?_⟩
  rw [a1 i hi, b1 i hi]
