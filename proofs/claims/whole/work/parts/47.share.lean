/-! SHARE -/
theorem Rel.z {M N : Mem} (h : Rel M N) (x : Int32) : Rel (mset M 48 12 x) (mset N 1 4 x) := by
  obtain ⟨v, M', N', e1, e2, r⟩ := q_seed h x
  unfold f_X9_seed f_X9_seed_b0 at e1
  unfold f_X10_seed f_X10_seed_b0 at e2
  rw [show (4 : Int32) = nI 4 from rfl, becomes_eq (by omega)] at e2
  simp only [Option.bind_some] at e2
  injection e1 with e1
  injection e1 with _ e1
  injection e2 with e2
  injection e2 with _ e2
  rw [e1, e2]
  exact r
def zNx (z : Int32) : Int32 := z * (1103515245 : Int32) + (12345 : Int32)
def sgt (z s d : Int32) : Int32 := (s - d) + (irem (iushr z (8 : Int32)) (((2 : Int32) * d) + (1 : Int32)))
theorem c2d1 {d : Nat} (hd : d < 201) : ¬ ((2 : Int32) * nI d) + (1 : Int32) = 0 := by
  rw [show (2 : Int32) = nI 2 from rfl, nI_mul, nI_1]
  exact fun z => absurd ((nI_eq (b := 0) (by omega) (by omega)).mp z) (by omega)
theorem drawnC (z : Int32) (M : Mem) : f_X9_drawn z M = some (zNx z, M) := rfl
theorem sightC {d : Nat} (hd : d < 201) (z s : Int32) (M : Mem) : f_X9_sight z s (nI d) M = some (sgt z s (nI d), M) := by
  unfold f_X9_sight f_X9_sight_b0
  rw [if_neg (c2d1 hd)]
  rfl
theorem drawnM {d : Nat} (hd : d < 201) (s : Int32) (N : Mem) : f_X10_drawn s (nI d) N = some (sgt (zNx (N 1 4)) s (nI d), mset N 1 4 (zNx (N 1 4))) := by
  unfold f_X10_drawn f_X10_drawn_b0
  rw [if_neg (c2d1 hd), mset_at]
  rfl
theorem sails_eq {d : Nat} (hd : d < 201) (e : Int32) (K : Int32 → Int32 → Int32 → Int32 → Int32 → Mem → Option (Int32 × Mem)) (x1 x4 x5 : Int32) : ∀ (r fuel c : Nat) (f3 : Int32) (M1 N1 : Mem), c + r = 9 → r < fuel → (f3 = 0 ∨ f3 = 1) → Rel M1 N1 → ∃ f3' M' N', f_X0_sailsWithin_b5 fuel 48 (nI d) e f3 (nI c) M1 = some (f3', M') ∧ f_X10_share_b57 K fuel x1 (nI d) e x4 x5 f3 (nI c) N1 = f_X10_share_b128 K x1 (nI d) e x4 x5 f3' N' ∧ Rel M' N' := by
  have r8 : rfC 48 8 = 48 + 7 := (rf_co 48 (Or.inl rfl)).2.2.2.2.2.2.2.2
  intro r
  induction r with
  | zero =>
    intro fuel c f3 M1 N1 hi hf h3 h
    obtain ⟨f, rfl⟩ : ∃ f, fuel = f + 1 := ⟨fuel - 1, by omega⟩
    have : c = 9 := by omega
    subst this
    have z3 : z01 f3 = true := by rcases h3 with rfl | rfl <;> decide
    rw [f_X0_sailsWithin_b5, f_X10_share_b57, if_pos (show (9 : Int32) ≤ nI 9 by decide), if_pos (show (9 : Int32) ≤ nI 9 by decide), if_pos z3]
    exact ⟨f3, M1, N1, rfl, rfl, h⟩
  | succ r ih =>
    intro fuel c f3 M1 N1 hi hf h3 h
    obtain ⟨f, rfl⟩ : ∃ f, fuel = f + 1 := ⟨fuel - 1, by omega⟩
    have hc9 : c < 9 := by omega
    have hix : ixb (nI c) 9 = true := ixb_t hc9 (by omega)
    have h9 : ¬ (9 : Int32) ≤ nI c := nI_ge (a := c) (b := 9) (by omega) (by omega)
    obtain ⟨s1, s2⟩ := h.1.2.2.2.2.1 c hc9
    have ez : M1 48 12 = N1 1 4 := h.1.2.2.2.2.2
    have e20 : (20 : Int32) + nI c = nI (20 + c) := by rw [show (20 : Int32) = nI 20 from rfl, nI_add]
    have us := uc_none (x := N1 1 (20 + c)) s2.1
    rw [f_X0_sailsWithin_b5, f_X10_share_b57, if_neg h9, if_neg h9]
    simp only [hix, if_true]
    rw [e20, if_pos (ixb_t (show 20 + c < 3300 by omega) (by omega)), ix_nI (by omega), ix_nI (by omega), r8, s1]
    by_cases q : N1 1 (20 + c) < 0
    · rw [if_pos (us.mpr q), if_pos q, f_X0_sailsWithin_b73, f_X10_share_b98, f_X10_share_b103, f_X10_share_b119, f_X10_share_b120, f_X10_share_b120, nI_1]
      obtain ⟨f3', M', N', g1, g2, g3⟩ := ih f (c + 1) f3 M1 N1 (by omega) (by omega) h3 h
      refine ⟨f3', M', N', g1, ?_, g3⟩
      rcases h3 with rfl | rfl
      · rw [if_pos rfl]; exact g2
      · rw [if_neg (by decide), if_neg (by decide)]; exact g2
    · have uv : uc (N1 1 (20 + c)) = N1 1 (20 + c) := by
        unfold uc
        rw [if_pos (by rw [i_lt, i_0] at q; rw [i_le, i_0]; omega)]
      have hz := h.z (zNx (N1 1 4))
      have hsg := sightC hd (zNx (N1 1 4)) (N1 1 (20 + c))
      have hd1 := drawnC (N1 1 4) M1
      have hd2 := drawnM hd (N1 1 (20 + c)) N1
      generalize sgt (zNx (N1 1 4)) (N1 1 (20 + c)) (nI d) = gg at hsg hd2
      generalize zNx (N1 1 4) = zz at hz hsg hd1 hd2
      rw [if_neg (fun z => q (us.mp z)), if_neg q, ez, hd1, hd2]
      rw [Option.bind_some, Option.bind_some]
      dsimp only
      rw [mset_at, mset_ne (show 48 + 7 ≠ 48 by omega), s1, uv, hsg, size_eq]
      rw [Option.bind_some, Option.bind_some]
      dsimp only
      have hA : mset M1 48 12 zz (48 + 7) c = N1 1 (20 + c) := by rw [mset_ne (show 48 + 7 ≠ 48 by omega), s1, uv]
      simp only [hA]
      by_cases q2 : e < iabs (gg - N1 1 (20 + c))
      · rw [if_pos q2, if_pos q2, f_X0_sailsWithin_b71, f_X0_sailsWithin_b73, f_X10_share_b103, f_X10_share_b119, f_X10_share_b120, nI_1]
        obtain ⟨f3', M', N', g1, g2, g3⟩ := ih f (c + 1) 0 _ _ (by omega) (by omega) (Or.inl rfl) hz
        refine ⟨f3', M', N', ?_, ?_, g3⟩
        · rw [show f3 &&& 0 = 0 from Int32.and_zero]; exact g1
        · rw [if_pos rfl]
          split <;> exact g2
      · rw [if_neg q2, if_neg q2, f_X0_sailsWithin_b71, f_X0_sailsWithin_b73, f_X10_share_b98, f_X10_share_b103, f_X10_share_b119, f_X10_share_b120, f_X10_share_b120, nI_1]
        obtain ⟨f3', M', N', g1, g2, g3⟩ := ih f (c + 1) f3 _ _ (by omega) (by omega) h3 hz
        refine ⟨f3', M', N', ?_, ?_, g3⟩
        · rw [show f3 &&& 1 = f3 from by rcases h3 with rfl | rfl <;> decide]; exact g1
        · rcases h3 with rfl | rfl
          · rw [if_pos rfl]; exact g2
          · rw [if_neg (by decide), if_neg (by decide)]; exact g2
theorem q_share {M N : Mem} (h : Rel M N) (x1 x2 x3 : Int32) : Eqv (f_X9_share x1 x2 x3 M) (f_X10_share x1 x2 x3 N) := by
  unfold f_X9_share f_X9_share_b0 f_X10_share f_X10_share_b0
  rw [isWithinN x1 (1) 100 (1) 100 (by decide) (by decide), isInN x1 (1) 100 (1) 100 (by decide) (by decide)]
  simp only [Option.bind_some, b2i_eq0]
  by_cases hc : 1 ≤ x1.toInt ∧ x1.toInt ≤ 100
  rotate_left
  · rw [if_pos hc, if_pos (show ¬ (1 ≤ x1.toInt ∧ x1.toInt ≤ 100) by omega)]
    exact ⟨_, M, N, rfl, rfl, h⟩
  rw [if_neg (nn hc), if_neg (nn (show 1 ≤ x1.toInt ∧ x1.toInt ≤ 100 by omega))]
  rw [isWithinN x2 (0) 200 (0) 200 (by decide) (by decide), isInN x2 (0) 200 (0) 200 (by decide) (by decide)]
  simp only [Option.bind_some, b2i_eq0]
  by_cases hk : 0 ≤ x2.toInt ∧ x2.toInt ≤ 200
  rotate_left
  · rw [if_pos hk, if_pos (show ¬ (0 ≤ x2.toInt ∧ x2.toInt ≤ 200) by omega)]
    exact ⟨_, M, N, rfl, rfl, h⟩
  rw [if_neg (nn hk), if_neg (nn (show 0 ≤ x2.toInt ∧ x2.toInt ≤ 200 by omega))]
  rw [isWithinN x3 (0) 200 (0) 200 (by decide) (by decide), isInN x3 (0) 200 (0) 200 (by decide) (by decide)]
  simp only [Option.bind_some, b2i_eq0]
  by_cases he : 0 ≤ x3.toInt ∧ x3.toInt ≤ 200
  rotate_left
  · rw [if_pos he, if_pos (show ¬ (0 ≤ x3.toInt ∧ x3.toInt ≤ 200) by omega)]
    exact ⟨_, M, N, rfl, rfl, h⟩
  rw [if_neg (nn he), if_neg (nn (show 0 ≤ x3.toInt ∧ x3.toInt ≤ 200 by omega))]
  obtain ⟨k, hk1, rfl⟩ := i_of (n := 101) (x := x1) (by omega) (by omega)
  obtain ⟨d, hd, rfl⟩ := i_of (n := 201) (x := x2) (by omega) (by omega)
  have key : ∀ (r fuel i : Nat) (x4 : Int32) (M1 N1 : Mem), i + r = k → r < fuel → Rel M1 N1 → Eqv (f_X9_share_b41 fuel (nI k) (nI d) x3 x4 (nI i) M1) (f_X10_share_b45 fuel (nI k) (nI d) x3 x4 (nI i) N1) := by
    intro r
    induction r with
    | zero =>
      intro fuel i x4 M1 N1 hi hf h
      obtain ⟨f, rfl⟩ : ∃ f, fuel = f + 1 := ⟨fuel - 1, by omega⟩
      have : i = k := by omega
      subst this
      rw [f_X9_share_b41, f_X10_share_b45, if_pos (nI_le (Nat.le_refl _) (by omega)), if_pos (nI_le (Nat.le_refl _) (by omega))]
      exact ⟨_, M1, N1, rfl, rfl, h⟩
    | succ r ih =>
      intro fuel i x4 M1 N1 hi hf h
      obtain ⟨f, rfl⟩ : ∃ f, fuel = f + 1 := ⟨fuel - 1, by omega⟩
      have h9 : ¬ nI k ≤ nI i := nI_ge (by omega) (by omega)
      obtain ⟨f3', M', N', g1, g2, g3⟩ := sails_eq hd x3 (f_X10_share_b45 f) (nI k) x4 (nI i) 9 FU 0 1 M1 N1 (by omega) (by unfold FU; omega) (Or.inr rfl) h
      have g1 : f_X0_sailsWithin_b5 FU 48 (nI d) x3 1 0 M1 = _ := g1
      have g2 : f_X10_share_b57 (f_X10_share_b45 f) FU (nI k) (nI d) x3 x4 (nI i) 1 0 N1 = _ := g2
      rw [f_X9_share_b41, f_X10_share_b45, if_neg h9, if_neg h9, f_X0_sailsWithin, f_X0_sailsWithin_b0, g1, g2]
      simp only [Option.bind_some]
      rw [f_X10_share_b128, f_X9_share_b66, f_X9_share_b66, f_X10_share_b140, f_X10_share_b140, nI_1]
      by_cases q : f3' = 0
      · rw [if_pos q, if_pos q]
        exact ih f (i + 1) _ M' N' (by omega) (by omega) g3
      · rw [if_neg q, if_neg q]
        exact ih f (i + 1) _ M' N' (by omega) (by omega) g3
  exact key k FU 0 0 M N (by omega) (by unfold FU; omega) h
