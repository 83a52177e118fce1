/-! MISSES, BEST -/
abbrev TbP (S : Row) (v : Int32) (i : Nat) : Prop := S (120 + 7 * i + 1) = v ∧ ¬ S (120 + 7 * i + 5) < 0 ∧ ¬ S (20 + ix (S (120 + 7 * i + 5))) < 0
def msS (S : Row) (v : Int32) : Nat → Int32
  | 0 => 0
  | i + 1 => if TbP S v i then msS S v i + iabs (saysS S i - S (20 + ix (S (120 + 7 * i + 5)))) else msS S v i
def mcS (S : Row) (v : Int32) : Nat → Nat
  | 0 => 0
  | i + 1 => if TbP S v i then mcS S v i + 1 else mcS S v i
theorem mcS_le (S : Row) (v : Int32) : ∀ i, mcS S v i ≤ i := by
  intro i
  induction i with
  | zero => exact Nat.le_refl 0
  | succ i ih =>
    rw [mcS]
    split <;> omega
theorem tbm_eq {M : Mem} {S : Row} {n t i : Nat} (h : RV M S 48 n t) (hS : RSur (M (48 + 7)) S) (hi : i < n) (v : Int32) : f_X0_isToBeMissed 48 (48 + 8 + i) v M = some (b2i (TbP S v i), M) := by
  obtain ⟨ok, eq⟩ := h.2.2.1.2.2 i hi
  have e1 : M (48 + 8 + i) 1 = S (120 + 7 * i + 1) := eq.2.1
  have e5 : M (48 + 8 + i) 5 = uc (S (120 + 7 * i + 5)) := eq.2.2.2.2.2.1
  have r8 : rfC 48 8 = 48 + 7 := (rf_co 48 (Or.inl rfl)).2.2.2.2.2.2.2.2
  have u5 := uc_none (x := S (120 + 7 * i + 5)) ok.2.2.2.2.2.1.1
  unfold f_X0_isToBeMissed f_X0_isToBeMissed_b0 b2i
  rw [e1, e5, r8]
  by_cases q1 : S (120 + 7 * i + 1) = v
  · rw [if_pos q1]
    by_cases q5 : S (120 + 7 * i + 5) < 0
    · rw [if_pos (u5.mpr q5), if_neg (fun z => z.2.1 q5)]
    · have p5 : 0 ≤ (S (120 + 7 * i + 5)).toInt := by rw [i_lt, i_0] at q5; omega
      obtain ⟨c, hc, ec⟩ := i_of (n := 9) p5 (by have := ok.2.2.2.2.2.1; omega)
      have uv : uc (S (120 + 7 * i + 5)) = nI c := by
        unfold uc
        rw [if_pos (by rw [i_le, i_0]; exact p5), ec]
      obtain ⟨s1, s2⟩ := hS c hc
      rw [if_neg (fun z => q5 (u5.mp z)), uv, if_pos (ixb_t hc (by omega)), ix_nI (by omega), s1]
      have us := uc_none (x := S (20 + c)) s2.1
      unfold TbP
      rw [ec, ix_nI (by omega)]
      by_cases q : S (20 + c) < 0
      · rw [if_pos (us.mpr q), if_neg (fun z => z.2.2 q)]
      · rw [if_neg (fun z => q (us.mp z)), if_pos ⟨q1, nI_lt0 (by omega), q⟩]
  · rw [if_neg q1, if_neg (fun z => q1 z.1)]
theorem missing_eq {M : Mem} {S : Row} {n t : Nat} (h : RV M S 48 n t) (hS : RSur (M (48 + 7)) S) (v : Int32) : f_X0_missingMarksOf 48 v M = some (nI (mcS S v n), M) := by
  have hn := h.2.2.1.1
  have hrc := rf_co 48 h.1
  have key : ∀ (r fuel i : Nat), i + r = n → r < fuel → f_X0_missingMarksOf_b4 fuel 48 v (nI (mcS S v i)) (nI i) M = some (nI (mcS S v n), M) := by
    intro r
    induction r with
    | zero =>
      intro fuel i hi hf
      obtain ⟨f, rfl⟩ : ∃ f, fuel = f + 1 := ⟨fuel - 1, by omega⟩
      have : i = n := by omega
      subst this
      rw [f_X0_missingMarksOf_b4, h.2.1, if_pos (nI_le (Nat.le_refl _) (by omega))]
    | succ r ih =>
      intro fuel i hi hf
      obtain ⟨f, rfl⟩ : ∃ f, fuel = f + 1 := ⟨fuel - 1, by omega⟩
      have this := ih f (i + 1) (by omega) (by omega)
      rw [mcS] at this
      have r0 : rfC 49 i = 48 + 8 + i := rf_mk (co := 48) (Or.inl rfl) (by omega)
      rw [f_X0_missingMarksOf_b4, h.2.1, if_neg (nI_ge (by omega) (by omega)), if_pos (ixb_t (show i < 24 by omega) (by omega)), ix_nI (by omega), show rfC 48 0 = 49 from hrc.1, r0, tbm_eq h hS (by omega)]
      simp only [Option.bind_some, b2i_eq0]
      by_cases q : TbP S v i
      · rw [if_pos q] at this
        rw [if_neg (nn q), f_X0_missingMarksOf_b32, nI_1, nI_1]
        exact this
      · rw [if_neg q] at this
        rw [if_pos q, f_X0_missingMarksOf_b32, nI_1, show nI (mcS S v i) + 0 = nI (mcS S v i) from Int32.add_zero _]
        exact this
  unfold f_X0_missingMarksOf f_X0_missingMarksOf_b0
  exact key n FU 0 (by omega) (by unfold FU; omega)
theorem missesOf_eq {M : Mem} {S : Row} {n t : Nat} (h : RV M S 48 n t) (hS : RSur (M (48 + 7)) S) (v : Int32) : ∃ M', f_X0_missesOf 48 v M = some (msS S v n, M') ∧ SC M M' := by
  have hn := h.2.2.1.1
  have hrc := rf_co 48 h.1
  have key : ∀ (r fuel i : Nat) (M1 : Mem), i + r = n → r < fuel → SC M M1 → ∃ M', f_X0_missesOf_b4 fuel 48 v (msS S v i) (nI i) M1 = some (msS S v n, M') ∧ SC M M' := by
    intro r
    induction r with
    | zero =>
      intro fuel i M1 hi hf hc
      obtain ⟨f, rfl⟩ : ∃ f, fuel = f + 1 := ⟨fuel - 1, by omega⟩
      have : i = n := by omega
      subst this
      rw [f_X0_missesOf_b4, (h.cg hc).2.1, if_pos (nI_le (Nat.le_refl _) (by omega))]
      exact ⟨M1, rfl, hc⟩
    | succ r ih =>
      intro fuel i M1 hi hf hc
      obtain ⟨f, rfl⟩ : ∃ f, fuel = f + 1 := ⟨fuel - 1, by omega⟩
      have hv := h.cg hc
      have hS1 : RSur (M1 (48 + 7)) S := by rw [hc (48 + 7) (by omega)]; exact hS
      have this := fun M1 => ih f (i + 1) M1 (by omega) (by omega)
      rw [msS] at this
      obtain ⟨ok, eq⟩ := hv.2.2.1.2.2 i (by omega)
      have e5 : M1 (48 + 8 + i) 5 = uc (S (120 + 7 * i + 5)) := eq.2.2.2.2.2.1
      have r0 : rfC 49 i = 48 + 8 + i := rf_mk (co := 48) (Or.inl rfl) (by omega)
      rw [f_X0_missesOf_b4, hv.2.1, if_neg (nI_ge (by omega) (by omega)), if_pos (ixb_t (show i < 24 by omega) (by omega)), ix_nI (by omega), show rfC 48 0 = 49 from hrc.1, r0, tbm_eq hv hS1 (by omega)]
      simp only [Option.bind_some, b2i_eq0]
      by_cases q : TbP S v i
      · rw [if_pos q] at this
        obtain ⟨M2, e2, g2⟩ := saysC hv (show i < n by omega)
        rw [if_neg (nn q), e2]
        simp only [Option.bind_some]
        have p5 : 0 ≤ (S (120 + 7 * i + 5)).toInt := by have := q.2.1; rw [i_lt, i_0] at this; omega
        obtain ⟨c, hc9, ec⟩ := i_of (n := 9) p5 (by have := ok.2.2.2.2.2.1; omega)
        have uv : uc (S (120 + 7 * i + 5)) = nI c := by
          unfold uc
          rw [if_pos (by rw [i_le, i_0]; exact p5), ec]
        have sv : ¬ S (20 + c) < 0 := by have := q.2.2; rw [ec, ix_nI (by omega)] at this; exact this
        obtain ⟨s1, s2⟩ := hS1 c hc9
        have uw : uc (S (20 + c)) = S (20 + c) := by
          unfold uc
          rw [if_pos (by rw [i_lt, i_0] at sv; rw [i_le, i_0]; omega)]
        rw [g2 (48 + 8 + i) (by omega), e5, uv, if_pos (ixb_t hc9 (by omega)), ix_nI (by omega), show rfC 48 8 = 48 + 7 from hrc.2.2.2.2.2.2.2.2, g2 (48 + 7) (by omega), s1, uw, f_X0_missesOf_b55, nI_1]
        rw [ec, ix_nI (by omega)] at this
        exact this M2 (fun x hx => by rw [g2 x (by omega)]; exact hc x hx)
      · rw [if_neg q] at this
        rw [if_pos q, f_X0_missesOf_b55, nI_1, Int32.add_zero]
        exact this M1 hc
  unfold f_X0_missesOf f_X0_missesOf_b0
  exact key n FU 0 M (by omega) (by unfold FU; omega) (SC.rf M)
theorem size_eq (x : Int32) (N : Mem) : f_X10_size x N = some (iabs x, N) := by
  unfold f_X10_size f_X10_size_b0 iabs
  rw [Int32.zero_sub]
  split <;> rfl
theorem findMisses_eq {N : Mem} {n t : Nat} (h : SV (N 1) n t) (v : Int32) : ∃ N', f_X10_findMisses v N = some (0, N') ∧ SM N N' ∧ N' 0 42 = msS (N 1) v n ∧ N' 0 43 = nI (mcS (N 1) v n) := by
  have hn := h.2.1
  have key : ∀ (r fuel i : Nat) (N1 : Mem), i + r = n → r < fuel → SM N N1 → N1 0 42 = msS (N 1) v i → N1 0 43 = nI (mcS (N 1) v i) → ∃ N', f_X10_findMisses_b12 fuel v (nI i) N1 = some (0, N') ∧ SM N N' ∧ N' 0 42 = msS (N 1) v n ∧ N' 0 43 = nI (mcS (N 1) v n) := by
    intro r
    induction r with
    | zero =>
      intro fuel i N1 hi hf hm h1 h2
      obtain ⟨f, rfl⟩ : ∃ f, fuel = f + 1 := ⟨fuel - 1, by omega⟩
      have : i = n := by omega
      subst this
      rw [f_X10_findMisses_b12, hm.1 1 (by omega), h.1, if_pos (nI_le (Nat.le_refl _) (by omega))]
      exact ⟨N1, rfl, hm, h1, h2⟩
    | succ r ih =>
      intro fuel i N1 hi hf hm h1 h2
      obtain ⟨f, rfl⟩ : ∃ f, fuel = f + 1 := ⟨fuel - 1, by omega⟩
      have e1 := hm.1 1 (by omega)
      have h' : SV (N1 1) n t := by rw [e1]; exact h
      have ok := h.2.2.1 i (by omega)
      rw [f_X10_findMisses_b12, h'.1, if_neg (nI_ge (by omega) (by omega)), fd5 (by omega)]
      simp only [Option.bind_some]
      rw [fd1 (by omega)]
      simp only [Option.bind_some]
      rw [e1]
      have no : ¬ TbP (N 1) v i → ∃ N', f_X10_findMisses_b92 (f_X10_findMisses_b12 f) v (nI i) N1 = some (0, N') ∧ SM N N' ∧ N' 0 42 = msS (N 1) v n ∧ N' 0 43 = nI (mcS (N 1) v n) := fun q => by
        rw [f_X10_findMisses_b92, nI_1]
        exact ih f (i + 1) N1 (by omega) (by omega) hm (by rw [msS, if_neg q]; exact h1) (by rw [mcS, if_neg q]; exact h2)
      by_cases q1 : N 1 (120 + 7 * i + 1) = v
      · rw [if_pos q1]
        by_cases q5 : N 1 (120 + 7 * i + 5) < 0
        · rw [if_pos q5]
          exact no (fun z => z.2.1 q5)
        · have p5 : 0 ≤ (N 1 (120 + 7 * i + 5)).toInt := by rw [i_lt, i_0] at q5; omega
          obtain ⟨c, hc9, ec⟩ := i_of (n := 9) p5 (by have := ok.2.2.2.2.2.1; omega)
          have e20 : (20 : Int32) + nI c = nI (20 + c) := by rw [show (20 : Int32) = nI 20 from rfl, nI_add]
          rw [if_neg q5, ec, e20, if_pos (ixb_t (show 20 + c < 3300 by omega) (by omega)), ix_nI (by omega)]
          by_cases q : N 1 (20 + c) < 0
          · rw [if_pos q]
            exact no (fun z => z.2.2 (by rw [ec, ix_nI (by omega)]; exact q))
          · have hT : TbP (N 1) v i := ⟨q1, q5, by rw [ec, ix_nI (by omega)]; exact q⟩
            obtain ⟨N2, e2, g2⟩ := saysM h' (show i < n by omega)
            rw [if_neg q, e2]
            simp only [Option.bind_some]
            rw [if_pos (ixb_t (show 20 + c < 3300 by omega) (by omega)), size_eq]
            simp only [Option.bind_some]
            rw [g2 1 (by omega) (by omega), e1, f_X10_findMisses_b92, nI_1]
            have hm2 : SM N N2 := ⟨fun x hx => by rw [g2 x (by omega) (by omega)]; exact hm.1 x hx, by rw [g2 0 (by omega) (by omega)]; exact hm.2.1, by rw [g2 0 (by omega) (by omega)]; exact hm.2.2.1, by rw [g2 0 (by omega) (by omega)]; exact hm.2.2.2⟩
            refine ih f (i + 1) _ (by omega) (by omega) ((hm2.set0 (by omega)).set0 (by omega)) ?_ ?_
            · rw [mset_k (by omega), mset_at, msS, if_pos hT, h1, ec, ix_nI (by omega)]
            · rw [mset_at, mset_k (by omega), g2 0 (by omega) (by omega), h2, nI_1, mcS, if_pos hT]
      · rw [if_neg q1]
        exact no (fun z => q1 z.1)
  unfold f_X10_findMisses f_X10_findMisses_b0
  exact key n FU 0 _ (by omega) (by unfold FU; omega) (((SM.rf N).set0 (by omega)).set0 (by omega)) (by rw [mset_k (by omega), mset_at]; rfl) (by rw [mset_at]; rfl)
theorem q_misses {M N : Mem} (h : Rel M N) (x1 x2 : Int32) : Eqv (f_X9_misses x1 x2 M) (f_X10_misses x1 x2 N) := by
  obtain ⟨n, t, hv⟩ := RV.of (Or.inl rfl) h.1
  have hs := hv.sv
  have hn := hs.2.1
  have hS := h.1.2.2.2.2.1
  unfold f_X9_misses f_X9_misses_b0 f_X10_misses f_X10_misses_b0
  rw [isBelowN x1 3 3 (by decide), isVoyage_eq]
  simp only [Option.bind_some, b2i_eq0]
  by_cases hc : 0 ≤ x1.toInt ∧ x1.toInt < 3
  rotate_left
  · rw [if_pos hc, if_pos (show ¬ (0 ≤ x1.toInt ∧ x1.toInt < 3) by omega)]
    exact ⟨_, M, N, rfl, rfl, h⟩
  rw [if_neg (nn hc), if_neg (nn (show 0 ≤ x1.toInt ∧ x1.toInt < 3 by omega))]
  rw [isWithinN x2 (0) 1 (0) 1 (by decide) (by decide), isInN x2 (0) 1 (0) 1 (by decide) (by decide)]
  simp only [Option.bind_some, b2i_eq0]
  by_cases hk : 0 ≤ x2.toInt ∧ x2.toInt ≤ 1
  rotate_left
  · rw [if_pos hk, if_pos (show ¬ (0 ≤ x2.toInt ∧ x2.toInt ≤ 1) by omega)]
    exact ⟨_, M, N, rfl, rfl, h⟩
  rw [if_neg (nn hk), if_neg (nn (show 0 ≤ x2.toInt ∧ x2.toInt ≤ 1 by omega))]
  obtain ⟨N', e1, m1, g1, g2⟩ := findMisses_eq hs x1
  obtain ⟨M', e2, m2⟩ := missesOf_eq hv hS x1
  rw [e1, e2, missing_eq hv hS x1]
  simp only [Option.bind_some]
  rw [g1, g2]
  by_cases q : x2 = 0
  · rw [if_pos q, if_pos q]
    exact ⟨_, M', N', rfl, rfl, h.scr m2 m1⟩
  · rw [if_neg q, if_neg q]
    exact ⟨_, M, N', rfl, rfl, h.scr (SC.rf M) m1⟩
theorem q_best {M N : Mem} (h : Rel M N) : Eqv (f_X9_best M) (f_X10_best N) := by
  obtain ⟨n, t, hv⟩ := RV.of (Or.inl rfl) h.1
  have hs := hv.sv
  have hn := hs.2.1
  have hS := h.1.2.2.2.2.1
  have key : ∀ (r fuel i : Nat) (x1 x2 : Int32) (M1 N1 : Mem), i + r = 3 → r < fuel → -1 ≤ x1.toInt → SC M M1 → SM N N1 → Eqv (f_X9_best_b7 fuel (uc x1) x2 (nI i) M1) (f_X10_best_b6 fuel x1 x2 (nI i) N1) := by
    intro r
    induction r with
    | zero =>
      intro fuel i x1 x2 M1 N1 hi hf hx hc hm
      obtain ⟨f, rfl⟩ : ∃ f, fuel = f + 1 := ⟨fuel - 1, by omega⟩
      have : i = 3 := by omega
      subst this
      rw [f_X9_best_b7, f_X10_best_b6, if_pos (by decide), if_pos (by decide), f_X10_best_b58, orNone_eq]
      exact ⟨_, M1, N1, rfl, rfl, h.scr hc hm⟩
    | succ r ih =>
      intro fuel i x1 x2 M1 N1 hi hf hx hc hm
      obtain ⟨f, rfl⟩ : ∃ f, fuel = f + 1 := ⟨fuel - 1, by omega⟩
      have hv1 := hv.cg hc
      have hS1 : RSur (M1 (48 + 7)) (N 1) := by rw [hc (48 + 7) (by omega)]; exact hS
      have en := hm.1 1 (by omega)
      have hs1 : SV (N1 1) n t := by rw [en]; exact hs
      obtain ⟨N2, e1, m1, g1, g2⟩ := findMisses_eq hs1 (nI i)
      obtain ⟨M2, e2, m2⟩ := missesOf_eq hv1 hS1 (nI i)
      rw [en] at g1 g2
      have h3 : ¬ (3 : Int32) ≤ nI i := nI_ge (a := i) (b := 3) (by omega) (by omega)
      rw [f_X9_best_b7, f_X10_best_b6, if_neg h3, if_neg h3, e1, missing_eq hv1 hS1 (nI i)]
      simp only [Option.bind_some]
      rw [g1, g2, e2]
      simp only [Option.bind_some]
      have hl := mcS_le (N 1) (nI i) n
      have b40 : ∀ y, y = (msS (N 1) (nI i) n) / nI (mcS (N 1) (nI i) n) → mcS (N 1) (nI i) n ≠ 0 → Eqv (f_X9_best_b52 (f_X9_best_b7 f) (nI i) y M2) (f_X10_best_b40 (f_X10_best_b6 f) (nI i) N2) := fun y hy hz => by
        rw [f_X9_best_b52, f_X9_best_b57, f_X10_best_b40, f_X10_best_b52, g1, g2, if_neg (show ¬ nI (mcS (N 1) (nI i) n) = 0 from fun z => hz ((nI_eq (b := 0) (by omega) (by omega)).mp z)), nI_1, ← hy]
        have := ih f (i + 1) (nI i) y M2 N2 (by omega) (by omega) (by rw [nI_toInt (by omega)]; omega) (hc.tr m2) (hm.tr m1)
        rw [show uc (nI i) = nI i from by unfold uc; rw [if_pos (by rw [i_le, i_0, nI_toInt (by omega)]; omega)]] at this
        exact this
      by_cases q : nI (mcS (N 1) (nI i) n) ≤ 0
      · rw [if_pos q, if_pos q, f_X9_best_b57, f_X10_best_b52, nI_1]
        exact ih f (i + 1) x1 x2 M1 N2 (by omega) (by omega) hx hc (hm.tr m1)
      · have hz : mcS (N 1) (nI i) n ≠ 0 := fun z => q (by rw [z]; decide)
        have hz' : ¬ nI (mcS (N 1) (nI i) n) = 0 := fun z => hz ((nI_eq (b := 0) (by omega) (by omega)).mp z)
        rw [if_neg q, if_neg q, if_neg hz', if_neg hz']
        by_cases q1 : x1 < 0
        · rw [if_pos ((uc_none hx).mpr q1), if_pos q1]
          exact b40 _ rfl hz
        · rw [if_neg (fun z => q1 ((uc_none hx).mp z)), if_neg q1]
          by_cases q2 : x2 ≤ msS (N 1) (nI i) n / nI (mcS (N 1) (nI i) n)
          · rw [if_pos q2, if_pos q2, f_X9_best_b57, f_X10_best_b52, nI_1]
            exact ih f (i + 1) x1 x2 M2 N2 (by omega) (by omega) hx (hc.tr m2) (hm.tr m1)
          · rw [if_neg q2, if_neg q2]
            exact b40 _ rfl hz
  have := key 3 FU 0 (-1) 0 M N (by omega) (by unfold FU; omega) (by decide) (SC.rf M) (SM.rf N)
  rw [uc_m1] at this
  unfold f_X9_best f_X9_best_b0 f_X10_best f_X10_best_b0
  exact this
