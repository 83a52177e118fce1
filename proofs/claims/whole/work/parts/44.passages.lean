/-! PASSAGES -/
theorem areCapes_eq (x y : Int32) (N : Mem) : f_X10_areCapes x y N = some (b2i ((0 ≤ x.toInt ∧ x.toInt < 9) ∧ (0 ≤ y.toInt ∧ y.toInt < 9) ∧ x ≠ y), N) := by
  unfold f_X10_areCapes f_X10_areCapes_b0
  rw [isCape_eq]
  simp only [Option.bind_some, b2i_eq0, isCape_eq]
  unfold b2i
  by_cases h1 : 0 ≤ x.toInt ∧ x.toInt < 9
  · rw [if_neg (fun q => q h1)]
    by_cases h2 : 0 ≤ y.toInt ∧ y.toInt < 9
    · rw [if_neg (fun q => q h2)]
      by_cases h3 : x = y
      · rw [if_pos h3, if_neg (fun q => q.2.2 h3)]
      · rw [if_neg h3, if_pos ⟨h1, h2, h3⟩]
    · rw [if_pos h2, if_neg (fun q => h2 q.2.1)]
  · rw [if_pos h1, if_neg (fun q => h1 q.1)]
theorem areTwo9 (x y : Int32) (M : Mem) : f_X9_areTwo x y 9 M = some (b2i ((0 ≤ x.toInt ∧ x.toInt < 9) ∧ (0 ≤ y.toInt ∧ y.toInt < 9) ∧ x ≠ y), M) := areTwo_eq x y 9 M
theorem areTwo10 (x y : Int32) (M : Mem) : f_X9_areTwo x y 10 M = some (b2i ((0 ≤ x.toInt ∧ x.toInt < 10) ∧ (0 ≤ y.toInt ∧ y.toInt < 10) ∧ x ≠ y), M) := areTwo_eq x y 10 M
theorem ps_bd {a b h : Nat} (ha : a < 9) (hb : b < 9) (hh : h < 4) : psCode a b h < 324 := by
  unfold psCode
  omega
theorem ps_inj {a b h a' b' h' : Nat} (ha : a < 9) (hb : b < 9) (hh : h < 4) (ha' : a' < 9) (hb' : b' < 9) (hh' : h' < 4) : psCode a' b' h' = psCode a b h ↔ ((a' = a ∧ b' = b) ∨ (a' = b ∧ b' = a)) ∧ h' = h := by
  unfold psCode
  omega
theorem psC {a b h : Nat} (ha : a < 9) (hb : b < 9) (hh : h < 4) (M : Mem) : f_X9_passageCode (nI a) (nI b) (nI h) M = some (nI (psCode a b h), M) := by
  have e1 : imin (nI a) (nI b) = nI (min a b) := by
    unfold imin
    by_cases q : b < a
    · rw [if_pos (nI_lt q (by omega)), Nat.min_eq_right (by omega)]
    · rw [if_neg (fun z => q (by rw [i_lt, nI_toInt (by omega), nI_toInt (by omega)] at z; omega)), Nat.min_eq_left (by omega)]
  have e2 : imax (nI a) (nI b) = nI (max a b) := by
    unfold imax
    by_cases q : a < b
    · rw [if_pos (nI_lt q (by omega)), Nat.max_eq_right (by omega)]
    · rw [if_neg (fun z => q (by rw [i_lt, nI_toInt (by omega), nI_toInt (by omega)] at z; omega)), Nat.max_eq_left (by omega)]
  unfold f_X9_passageCode f_X9_passageCode_b0 psCode
  rw [e1, e2, show (9 : Int32) = nI 9 from rfl, show (4 : Int32) = nI 4 from rfl, nI_mul, nI_add, nI_mul, nI_add]
abbrev PsI (S : Row) (a b h p : Nat) : Prop := ((S (50 + 3 * p) = nI a ∧ S (50 + 3 * p + 1) = nI b) ∨ (S (50 + 3 * p) = nI b ∧ S (50 + 3 * p + 1) = nI a)) ∧ S (50 + 3 * p + 2) = nI h
def pcS (S : Row) (a b h : Nat) : Nat → Nat
  | 0 => 0
  | p + 1 => if PsI S a b h p then pcS S a b h p + 1 else pcS S a b h p
theorem pcS_le (S : Row) (a b h : Nat) : ∀ p, pcS S a b h p ≤ p := by
  intro p
  induction p with
  | zero => exact Nat.le_refl 0
  | succ p ih =>
    rw [pcS]
    split <;> omega
theorem PsOk.iff {c S : Row} {p a b h : Nat} (k : PsOk c S p) (ha : a < 9) (hb : b < 9) (hh : h < 4) : c p = nI (psCode a b h) ↔ PsI S a b h p := by
  obtain ⟨a', b', h', k1, k2, k3, k4, k5, k6, k7, k8⟩ := k
  unfold PsI
  rw [k5, k6, k7, k8, nI_eq (by have := ps_bd k1 k2 k4; omega) (by have := ps_bd ha hb hh; omega), nI_eq (by omega) (by omega), nI_eq (by omega) (by omega), nI_eq (by omega) (by omega), nI_eq (by omega) (by omega), nI_eq (by omega) (by omega)]
  exact ps_inj ha hb hh k1 k2 k4
theorem passagesOf_eq {M : Mem} {S : Row} {np a b h : Nat} (hp : M 48 11 = nI np) (hP : RPass (M (48 + 4)) S np) (ha : a < 9) (hb : b < 9) (hh : h < 4) : f_X0_passagesOf 48 (nI a) (nI b) (nI h) M = some (nI (pcS S a b h np), M) := by
  have hn := hP.1
  have r5 : rfC 48 5 = 48 + 4 := (rf_co 48 (Or.inl rfl)).2.2.2.2.2.1
  have key : ∀ (r fuel i : Nat), i + r = np → r < fuel → f_X0_passagesOf_b14 fuel 48 (nI (psCode a b h)) (nI (pcS S a b h i)) (nI i) M = some (nI (pcS S a b h np), M) := by
    intro r
    induction r with
    | zero =>
      intro fuel i hi hf
      obtain ⟨f, rfl⟩ : ∃ f, fuel = f + 1 := ⟨fuel - 1, by omega⟩
      have : i = np := by omega
      subst this
      rw [f_X0_passagesOf_b14, hp, if_pos (nI_le (Nat.le_refl _) (by omega))]
    | succ r ih =>
      intro fuel i hi hf
      obtain ⟨f, rfl⟩ : ∃ f, fuel = f + 1 := ⟨fuel - 1, by omega⟩
      have this := ih f (i + 1) (by omega) (by omega)
      rw [pcS] at this
      have w := (hP.2.2 i (by omega)).iff ha hb hh
      rw [f_X0_passagesOf_b14, hp, if_neg (nI_ge (by omega) (by omega)), if_pos (ixb_t (show i < 20 by omega) (by omega)), ix_nI (by omega), r5]
      by_cases q : PsI S a b h i
      · rw [if_pos q] at this
        rw [if_pos (w.mpr q), f_X0_passagesOf_b42, nI_1, nI_1]
        exact this
      · rw [if_neg q] at this
        rw [if_neg (fun z => q (w.mp z)), f_X0_passagesOf_b42, nI_1, show nI (pcS S a b h i) + 0 = nI (pcS S a b h i) from Int32.add_zero _]
        exact this
  unfold f_X0_passagesOf f_X0_passagesOf_b0
  rw [psC ha hb hh]
  exact key np FU 0 (by omega) (by unfold FU; omega)
theorem passed_eq {N : Mem} {np a b h : Nat} (hp : N 1 2 = nI np) (hn : np ≤ 20) : f_X10_passed (nI a) (nI b) (nI h) N = some (nI (pcS (N 1) a b h np), N) := by
  have key : ∀ (r fuel i : Nat), i + r = np → r < fuel → f_X10_passed_b6 fuel (nI a) (nI b) (nI h) (nI (pcS (N 1) a b h i)) (nI i) N = some (nI (pcS (N 1) a b h np), N) := by
    intro r
    induction r with
    | zero =>
      intro fuel i hi hf
      obtain ⟨f, rfl⟩ : ∃ f, fuel = f + 1 := ⟨fuel - 1, by omega⟩
      have : i = np := by omega
      subst this
      rw [f_X10_passed_b6, hp, if_pos (nI_le (Nat.le_refl _) (by omega))]
    | succ r ih =>
      intro fuel i hi hf
      obtain ⟨f, rfl⟩ : ∃ f, fuel = f + 1 := ⟨fuel - 1, by omega⟩
      have this := ih f (i + 1) (by omega) (by omega)
      rw [pcS] at this
      have e0 : (50 : Int32) + (3 : Int32) * nI i = nI (50 + 3 * i) := by rw [show (50 : Int32) = nI 50 from rfl, show (3 : Int32) = nI 3 from rfl, nI_mul, nI_add]
      have e2 : nI (50 + 3 * i) + 2 = nI (50 + 3 * i + 2) := by rw [show (2 : Int32) = nI 2 from rfl, nI_add]
      have b78 : ¬ PsI (N 1) a b h i → f_X10_passed_b78 (f_X10_passed_b6 f) (nI a) (nI b) (nI h) (nI (pcS (N 1) a b h i)) (nI i) (nI (50 + 3 * i)) N = some (nI (pcS (N 1) a b h np), N) := fun q => by
        rw [if_neg q] at this
        rw [f_X10_passed_b78, f_X10_passed_b79, if_pos rfl, f_X10_passed_b105, f_X10_passed_b106, nI_1, show nI (pcS (N 1) a b h i) + 0 = nI (pcS (N 1) a b h i) from Int32.add_zero _]
        exact this
      have b74 : ((N 1 (50 + 3 * i) = nI a ∧ N 1 (50 + 3 * i + 1) = nI b) ∨ (N 1 (50 + 3 * i) = nI b ∧ N 1 (50 + 3 * i + 1) = nI a)) → f_X10_passed_b74 (f_X10_passed_b6 f) (nI a) (nI b) (nI h) (nI (pcS (N 1) a b h i)) (nI i) (nI (50 + 3 * i)) N = some (nI (pcS (N 1) a b h np), N) := fun q => by
        rw [f_X10_passed_b74, f_X10_passed_b79, if_neg (show ¬ (1 : Int32) = 0 by decide), e2, if_pos (ixb_t (show 50 + 3 * i + 2 < 3300 by omega) (by omega)), ix_nI (by omega)]
        by_cases q2 : N 1 (50 + 3 * i + 2) = nI h
        · rw [if_pos ⟨q, q2⟩] at this
          rw [if_pos q2, f_X10_passed_b106, nI_1, nI_1]
          exact this
        · rw [if_neg (fun z => q2 z.2)] at this
          rw [if_neg q2, f_X10_passed_b105, f_X10_passed_b106, nI_1, show nI (pcS (N 1) a b h i) + 0 = nI (pcS (N 1) a b h i) from Int32.add_zero _]
          exact this
      have b50 : ¬ (N 1 (50 + 3 * i) = nI a ∧ N 1 (50 + 3 * i + 1) = nI b) → f_X10_passed_b50 (f_X10_passed_b6 f) (nI a) (nI b) (nI h) (nI (pcS (N 1) a b h i)) (nI i) (nI (50 + 3 * i)) N = some (nI (pcS (N 1) a b h np), N) := fun q => by
        rw [f_X10_passed_b50, if_pos (ixb_t (show 50 + 3 * i < 3300 by omega) (by omega)), nI_1, if_pos (ixb_t (show 50 + 3 * i + 1 < 3300 by omega) (by omega)), ix_nI (by omega), ix_nI (by omega)]
        by_cases q1 : N 1 (50 + 3 * i) = nI b
        · rw [if_pos q1]
          by_cases q2 : N 1 (50 + 3 * i + 1) = nI a
          · rw [if_pos q2]; exact b74 (Or.inr ⟨q1, q2⟩)
          · rw [if_neg q2]; exact b78 (fun z => z.1.elim q (fun y => q2 y.2))
        · rw [if_neg q1]; exact b78 (fun z => z.1.elim q (fun y => q1 y.1))
      rw [f_X10_passed_b6, hp, if_neg (nI_ge (by omega) (by omega)), e0, if_pos (ixb_t (show 50 + 3 * i < 3300 by omega) (by omega)), nI_1, if_pos (ixb_t (show 50 + 3 * i + 1 < 3300 by omega) (by omega)), ix_nI (by omega), ix_nI (by omega)]
      by_cases q1 : N 1 (50 + 3 * i) = nI a
      · rw [if_pos q1]
        by_cases q2 : N 1 (50 + 3 * i + 1) = nI b
        · rw [if_pos q2]; exact b74 (Or.inl ⟨q1, q2⟩)
        · rw [if_neg q2]; exact b50 (fun z => q2 z.2)
      · rw [if_neg q1]; exact b50 (fun z => q1 z.1)
  unfold f_X10_passed f_X10_passed_b0
  exact key np FU 0 (by omega) (by unfold FU; omega)
theorem q_between {M N : Mem} (h : Rel M N) (x1 x2 : Int32) : Eqv (f_X9_between x1 x2 M) (f_X10_between x1 x2 N) := by
  obtain ⟨np, p1, p2⟩ := h.1.2.2.1
  unfold f_X9_between f_X9_between_b0 f_X10_between f_X10_between_b0
  rw [areTwo9, areCapes_eq]
  simp only [Option.bind_some, b2i_eq0]
  by_cases hc : (0 ≤ x1.toInt ∧ x1.toInt < 9) ∧ (0 ≤ x2.toInt ∧ x2.toInt < 9) ∧ x1 ≠ x2
  rotate_left
  · rw [if_pos hc, if_pos hc]
    exact ⟨_, M, N, rfl, rfl, h⟩
  rw [if_neg (nn hc), if_neg (nn hc)]
  obtain ⟨a, ha, rfl⟩ := i_of (n := 9) hc.1.1 hc.1.2
  obtain ⟨b, hb, rfl⟩ := i_of (n := 9) hc.2.1.1 hc.2.1.2
  have c0 : f_X0_passagesOf 48 (nI a) (nI b) 0 M = _ := passagesOf_eq p1 p2 ha hb (h := 0) (by omega)
  have c1 : f_X0_passagesOf 48 (nI a) (nI b) 1 M = _ := passagesOf_eq p1 p2 ha hb (h := 1) (by omega)
  have c2 : f_X0_passagesOf 48 (nI a) (nI b) 2 M = _ := passagesOf_eq p1 p2 ha hb (h := 2) (by omega)
  have c3 : f_X0_passagesOf 48 (nI a) (nI b) 3 M = _ := passagesOf_eq p1 p2 ha hb (h := 3) (by omega)
  have m0 : f_X10_passed (nI a) (nI b) 0 N = _ := passed_eq (a := a) (b := b) (h := 0) p2.2.1 p2.1
  have m1 : f_X10_passed (nI a) (nI b) 1 N = _ := passed_eq (a := a) (b := b) (h := 1) p2.2.1 p2.1
  have m2 : f_X10_passed (nI a) (nI b) 2 N = _ := passed_eq (a := a) (b := b) (h := 2) p2.2.1 p2.1
  have m3 : f_X10_passed (nI a) (nI b) 3 N = _ := passed_eq (a := a) (b := b) (h := 3) p2.2.1 p2.1
  have l2 := pcS_le (N 1) a b 2 np
  have l3 := pcS_le (N 1) a b 3 np
  have hnp := p2.1
  unfold f_X9_between_b31 f_X10_between_b26 f_X10_between_b42 f_X9_between_b50 f_X9_between_b61 f_X9_between_b70 f_X9_between_b80 f_X10_between_b71 f_X10_between_b84
  simp only [c0, c1, c2, c3, m0, m1, m2, m3, Option.bind_some]
  generalize nI (pcS (N 1) a b 0 np) = u0
  generalize nI (pcS (N 1) a b 1 np) = u1
  have t2 : (nI (pcS (N 1) a b 2 np)).toInt = pcS (N 1) a b 2 np := nI_toInt (by omega)
  have t3 : (nI (pcS (N 1) a b 3 np)).toInt = pcS (N 1) a b 3 np := nI_toInt (by omega)
  by_cases q0 : u0 ≤ 0 <;> by_cases q1 : u1 ≤ 0
  · rw [if_pos q0, if_pos q0, if_pos q1, if_pos q1]
    simp only [if_true]
    simp only [i_eq, i_le, t2, t3]
    rcases Nat.lt_trichotomy (pcS (N 1) a b 3 np) (pcS (N 1) a b 2 np) with q | q | q
    · rw [if_neg (by omega), if_pos (by omega), if_pos (by omega), if_neg (by omega)]
      exact ⟨_, M, N, rfl, rfl, h⟩
    · rw [if_pos (by omega), if_pos (by omega), if_pos (by omega)]
      exact ⟨_, M, N, rfl, rfl, h⟩
    · rw [if_neg (by omega), if_neg (by omega), if_neg (by omega)]
      exact ⟨_, M, N, rfl, rfl, h⟩
  · rw [if_pos q0, if_pos q0, if_neg q1, if_neg q1]
    exact ⟨_, M, N, rfl, rfl, h⟩
  · rw [if_neg q0, if_neg q0, if_pos q1, if_pos q1]
    exact ⟨_, M, N, rfl, rfl, h⟩
  · rw [if_neg q0, if_neg q0, if_neg q1, if_neg q1]
    exact ⟨_, M, N, rfl, rfl, h⟩
theorem q_passage {M N : Mem} (h : Rel M N) (x1 x2 x3 : Int32) : Eqv (f_X9_passage x1 x2 x3 M) (f_X10_passage x1 x2 x3 N) := by
  obtain ⟨np0, p1, p2⟩ := h.1.2.2.1
  have hnp := p2.1
  unfold f_X9_passage f_X9_passage_b0 f_X10_passage f_X10_passage_b0
  rw [areTwo9, areCapes_eq]
  simp only [Option.bind_some, b2i_eq0]
  by_cases hc : (0 ≤ x1.toInt ∧ x1.toInt < 9) ∧ (0 ≤ x2.toInt ∧ x2.toInt < 9) ∧ x1 ≠ x2
  rotate_left
  · rw [if_pos hc, if_pos hc]
    exact ⟨_, M, N, rfl, rfl, h⟩
  rw [if_neg (nn hc), if_neg (nn hc)]
  rw [isBelowN x3 4 4 (by decide), isInN x3 0 3 0 3 (by decide) (by decide)]
  simp only [Option.bind_some, b2i_eq0]
  by_cases hk : 0 ≤ x3.toInt ∧ x3.toInt < 4
  rotate_left
  · rw [if_pos hk, if_pos (show ¬ (0 ≤ x3.toInt ∧ x3.toInt ≤ 3) by omega)]
    exact ⟨_, M, N, rfl, rfl, h⟩
  rw [if_neg (nn hk), if_neg (nn (show 0 ≤ x3.toInt ∧ x3.toInt ≤ 3 by omega))]
  obtain ⟨a, ha, rfl⟩ := i_of (n := 9) hc.1.1 hc.1.2
  obtain ⟨b, hb, rfl⟩ := i_of (n := 9) hc.2.1.1 hc.2.1.2
  obtain ⟨k, hk4, rfl⟩ := i_of (n := 4) hk.1 hk.2
  have hab : a ≠ b := fun z => hc.2.2 (by rw [z])
  rw [p1, p2.2.1]
  by_cases q : np0 = 20
  · subst q
    rw [if_neg (by decide), if_pos (by decide)]
    exact ⟨_, M, N, rfl, rfl, h⟩
  have hq : np0 < 20 := by omega
  have e0 : (50 : Int32) + (3 : Int32) * nI np0 = nI (50 + 3 * np0) := by rw [show (50 : Int32) = nI 50 from rfl, show (3 : Int32) = nI 3 from rfl, nI_mul, nI_add]
  have e2 : nI (50 + 3 * np0) + 2 = nI (50 + 3 * np0 + 2) := by rw [show (2 : Int32) = nI 2 from rfl, nI_add]
  rw [if_pos (show nI np0 < 20 from nI_lt (b := 20) hq (by omega)), if_neg (show ¬ nI np0 = 20 from fun z => q ((nI_eq (b := 20) (by omega) (by omega)).mp z)), psC ha hb hk4]
  simp only [Option.bind_some]
  rw [if_pos (ixb_t hq (by omega)), e0, if_pos (ixb_t (show 50 + 3 * np0 < 3300 by omega) (by omega)), nI_1, if_pos (ixb_t (show 50 + 3 * np0 + 1 < 3300 by omega) (by omega)), f_X10_passage_bc68_1, e2, if_pos (ixb_t (show 50 + 3 * np0 + 2 < 3300 by omega) (by omega)), ix_nI (by omega), ix_nI (by omega), ix_nI (by omega), ix_nI (by omega)]
  unfold f_X9_passage_bc70_1
  rw [mset_ne (show (48 : Nat) ≠ 52 by omega), p1, nI_1, mset_at, mset_k (show (2 : Nat) ≠ 50 + 3 * np0 + 2 by omega), mset_k (show (2 : Nat) ≠ 50 + 3 * np0 + 1 by omega), mset_k (show (2 : Nat) ≠ 50 + 3 * np0 by omega), p2.2.1, nI_1, mset_at]
  let B := mset (mset M 52 np0 (nI (psCode a b k))) 48 11 (nI (np0 + 1))
  let C := mset (mset (mset (mset N 1 (50 + 3 * np0) (nI a)) 1 (50 + 3 * np0 + 1) (nI b)) 1 (50 + 3 * np0 + 2) (nI k)) 1 2 (nI (np0 + 1))
  refine ⟨_, B, C, rfl, rfl, ?_⟩
  have hB : B = mset (mset M 52 np0 (nI (psCode a b k))) 48 11 (nI (np0 + 1)) := rfl
  have hC : C = mset (mset (mset (mset N 1 (50 + 3 * np0) (nI a)) 1 (50 + 3 * np0 + 1) (nI b)) 1 (50 + 3 * np0 + 2) (nI k)) 1 2 (nI (np0 + 1)) := rfl
  have cM : ∀ y, y ≠ 48 ∧ y ≠ 52 → B y = M y := fun y hy => by rw [hB, mset_ne hy.1, mset_ne hy.2]
  have c48 : ∀ j, j ≠ 11 → B 48 j = M 48 j := fun j hj => by rw [hB, mset_k hj, mset_ne (by omega)]
  have cN : ∀ y, y ≠ 1 → C y = N y := fun y hy => by rw [hC, mset_ne hy, mset_ne hy, mset_ne hy, mset_ne hy]
  have cS : ∀ j, (j ≠ 2 ∧ (j < 50 + 3 * np0 ∨ 50 + 3 * np0 + 2 < j)) → C 1 j = N 1 j := fun j hj => by rw [hC, mset_k (by omega), mset_k (by omega), mset_k (by omega), mset_k (by omega)]
  clear_value B C
  refine h.now ?_ (fun y hy => cM y (by omega)) (fun y hy => cN y (by omega)) (by rw [cN 0 (by omega)]) (by rw [cN 0 (by omega)]) (by rw [cN 0 (by omega)]) (by rw [cS 1 (by omega)]; exact Int.le_refl _)
  have h := h.1
  obtain ⟨⟨n', h1, h2, nc, cs, h3⟩, ⟨t', h4, h5⟩, ⟨np, h6, h7⟩, h8, h9, h10⟩ := h
  have hn := h2.1
  have htt := h5.1
  refine ⟨⟨n', (by rw [c48 9 (by omega)]; exact h1), ((h2.cg (fun i hi => cM _ (by omega))).cgS (cS _ (by omega)) (fun k _ _ => cS _ (by omega))), nc, cs, (by rw [cM (48 + 2) (by omega), cM (48 + 3) (by omega)]; exact h3.cgS (cS _ (by omega)) (fun k _ _ => cS _ (by omega)) (fun i' _ => cS _ (by omega)))⟩, ⟨t', (by rw [c48 10 (by omega)]; exact h4), ((h5.cg (fun j hj => ⟨cM _ (by omega), cM _ (by omega)⟩)).cgS (cS _ (by omega)) (fun k _ _ => cS _ (by omega)))⟩, ⟨np0 + 1, ?_, ?_⟩, (by rw [cM (48 + 5) (by omega), cM (48 + 6) (by omega)]; exact h8.cgS (fun k _ _ => cS _ (by omega))), (by rw [cM (48 + 7) (by omega)]; exact h9.cgS (fun k _ _ => cS _ (by omega))), (by rw [c48 12 (by omega), cS 4 (by omega)]; exact h10)⟩
  · rw [hB, mset_at]
  · refine ⟨by omega, by rw [hC, mset_at], fun p hp => ?_⟩
    by_cases z : p = np0
    · subst z
      exact ⟨a, b, k, ha, hb, hab, hk4, by rw [hC, mset_k (by omega), mset_k (by omega), mset_k (by omega), mset_at], by rw [hC, mset_k (by omega), mset_k (by omega), mset_at], by rw [hC, mset_k (by omega), mset_at], by rw [hB, mset_ne (by omega), mset_at]⟩
    · obtain ⟨a', b', h', k1, k2, k3, k4, k5, k6, k7, k8⟩ := p2.2.2 p (by omega)
      exact ⟨a', b', h', k1, k2, k3, k4, by rw [cS _ (by omega)]; exact k5, by rw [cS _ (by omega)]; exact k6, by rw [cS _ (by omega)]; exact k7, by rw [hB, mset_ne (show 48 + 4 ≠ 48 by omega), mset_k z]; exact k8⟩
