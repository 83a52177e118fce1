/-! KEPT, SAME -/
def ktS (S : Row) (c : Int32) : Nat → Option Nat
  | 0 => none
  | i + 1 => if S (120 + 7 * i + 5) = c ∧ ¬ S (120 + 7 * i + 6) < 0 then (match ktS S c i with | none => some i | some j => if S (120 + 7 * j + 2) ≤ S (120 + 7 * i + 2) then some j else some i) else ktS S c i
def ktV (S : Row) : Option Nat → Int32
  | none => (-1000000005 : Int32)
  | some j => S (120 + 7 * j + 6)
def ktW (S : Row) : Option Nat → Int32
  | none => 100
  | some j => S (120 + 7 * j + 2)
def ktI : Option Nat → Int32
  | none => -1
  | some j => nI j
theorem ktS_lt {S : Row} {c : Int32} : ∀ i j, ktS S c i = some j → j < i := by
  intro i
  induction i with
  | zero => intro j h; cases h
  | succ i ih =>
    intro j h
    rw [ktS] at h
    split at h
    · cases e : ktS S c i with
      | none => rw [e] at h; injection h with h; omega
      | some k =>
        rw [e] at h
        have := ih k e
        simp only at h
        split at h
        · injection h with h; omega
        · injection h with h; omega
    · have := ih j h; omega
theorem ktC_eq {M : Mem} {S : Row} {n t c : Nat} (h : RV M S 48 n t) (hc : c < 9) : f_X9_kept_b21 FU (nI c) (-1000000005) 100 0 M = some (ktV S (ktS S (nI c) n), M) := by
  have hn := h.2.2.1.1
  have key : ∀ (r fuel i : Nat), i + r = n → r < fuel → f_X9_kept_b21 fuel (nI c) (ktV S (ktS S (nI c) i)) (ktW S (ktS S (nI c) i)) (nI i) M = some (ktV S (ktS S (nI c) n), M) := by
    intro r
    induction r with
    | zero =>
      intro fuel i hi hf
      obtain ⟨f, rfl⟩ : ∃ f, fuel = f + 1 := ⟨fuel - 1, by omega⟩
      have : i = n := by omega
      subst this
      rw [f_X9_kept_b21, h.2.1, if_pos (nI_le (Nat.le_refl _) (by omega))]
    | succ r ih =>
      intro fuel i hi hf
      obtain ⟨f, rfl⟩ : ∃ f, fuel = f + 1 := ⟨fuel - 1, by omega⟩
      have this := ih f (i + 1) (by omega) (by omega)
      rw [ktS] at this
      obtain ⟨ok, eq⟩ := h.2.2.1.2.2 i (by omega)
      have e5 : M (48 + 8 + i) 5 = uc (S (120 + 7 * i + 5)) := eq.2.2.2.2.2.1
      have e6 : M (48 + 8 + i) 6 = uc (S (120 + 7 * i + 6)) := eq.2.2.2.2.2.2
      have e2 : M (48 + 8 + i) 2 = S (120 + 7 * i + 2) := eq.2.2.1
      have r0 : rfC 49 i = 48 + 8 + i := rf_mk (co := 48) (Or.inl rfl) (by omega)
      have u5 := uc_eq (x := S (120 + 7 * i + 5)) (c := c) ok.2.2.2.2.2.1.1 (by omega)
      have u6 := uc_none (x := S (120 + 7 * i + 6)) ok.2.2.2.2.2.2.1
      rw [f_X9_kept_b21, h.2.1, if_neg (nI_ge (by omega) (by omega)), if_pos (ixb_t (show i < 24 by omega) (by omega)), ix_nI (by omega), r0, e5, e6, e2]
      by_cases q5 : S (120 + 7 * i + 5) = nI c
      · rw [if_pos (u5.mpr q5)]
        by_cases q6 : S (120 + 7 * i + 6) < 0
        · rw [if_neg (fun z => z.2 q6)] at this
          rw [if_pos (u6.mpr q6), f_X9_kept_b85, nI_1]
          exact this
        · rw [if_pos ⟨q5, q6⟩] at this
          have uv : uc (S (120 + 7 * i + 6)) = S (120 + 7 * i + 6) := by
            unfold uc
            rw [if_pos (by rw [i_lt, i_0] at q6; rw [i_le, i_0]; omega)]
          rw [if_neg (fun z => q6 (u6.mp z)), uv, f_X9_kept_b85, f_X9_kept_b85, nI_1]
          cases e : ktS S (nI c) i with
          | none =>
            rw [e] at this
            rw [show ktW S none = 100 from rfl, if_neg (by rw [i_le, c100]; have := ok.2.2.1; omega)]
            exact this
          | some j =>
            rw [e] at this
            simp only at this
            rw [show ktW S (some j) = S (120 + 7 * j + 2) from rfl]
            by_cases q2 : S (120 + 7 * j + 2) ≤ S (120 + 7 * i + 2)
            · rw [if_pos q2] at this ⊢
              exact this
            · rw [if_neg q2] at this ⊢
              exact this
      · rw [if_neg (fun z => q5 z.1)] at this
        rw [if_neg (fun z => q5 (u5.mp z)), f_X9_kept_b85, nI_1]
        exact this
  exact key n FU 0 (by omega) (by unfold FU; omega)
theorem ktM_eq {N : Mem} {n t c : Nat} (h : SV (N 1) n t) : f_X10_kept_b14 FU (nI c) (-1) 0 N = some (ktV (N 1) (ktS (N 1) (nI c) n), N) := by
  have hn := h.2.1
  have key : ∀ (r fuel i : Nat), i + r = n → r < fuel → f_X10_kept_b14 fuel (nI c) (ktI (ktS (N 1) (nI c) i)) (nI i) N = some (ktV (N 1) (ktS (N 1) (nI c) n), N) := by
    intro r
    induction r with
    | zero =>
      intro fuel i hi hf
      obtain ⟨f, rfl⟩ : ∃ f, fuel = f + 1 := ⟨fuel - 1, by omega⟩
      have : i = n := by omega
      subst this
      rw [f_X10_kept_b14, h.1, if_pos (nI_le (Nat.le_refl _) (by omega)), f_X10_kept_b87]
      cases e : ktS (N 1) (nI c) i with
      | none =>
        rw [show ktI none = -1 from rfl, if_neg (by decide)]
        rfl
      | some j =>
        have := ktS_lt i j e
        rw [show ktI (some j) = nI j from rfl, if_pos (by rw [i_le, i_0, nI_toInt (by omega)]; omega), fd6 (by omega)]
        rfl
    | succ r ih =>
      intro fuel i hi hf
      obtain ⟨f, rfl⟩ : ∃ f, fuel = f + 1 := ⟨fuel - 1, by omega⟩
      have this := ih f (i + 1) (by omega) (by omega)
      rw [ktS] at this
      rw [f_X10_kept_b14, h.1, if_neg (nI_ge (by omega) (by omega)), fd5 (by omega)]
      simp only [Option.bind_some]
      rw [fd6 (by omega)]
      simp only [Option.bind_some]
      have b48 : ¬ (N 1 (120 + 7 * i + 5) = nI c ∧ ¬ N 1 (120 + 7 * i + 6) < 0) → f_X10_kept_b48 (f_X10_kept_b14 f) (nI c) (ktI (ktS (N 1) (nI c) i)) (nI i) N = some (ktV (N 1) (ktS (N 1) (nI c) n), N) := fun q => by
        rw [if_neg q] at this
        rw [f_X10_kept_b48, f_X10_kept_b49, if_pos rfl, f_X10_kept_b79, f_X10_kept_b80, nI_1]
        exact this
      by_cases q5 : N 1 (120 + 7 * i + 5) = nI c
      · rw [if_pos q5]
        by_cases q6 : N 1 (120 + 7 * i + 6) < 0
        · rw [if_pos q6]
          exact b48 (fun z => z.2 q6)
        · rw [if_pos ⟨q5, q6⟩] at this
          rw [if_neg q6, f_X10_kept_b49, if_neg (show ¬ (1 : Int32) = 0 by decide)]
          cases e : ktS (N 1) (nI c) i with
          | none =>
            rw [e] at this
            rw [show ktI none = -1 from rfl, if_pos (show (-1 : Int32) < 0 by decide), f_X10_kept_b75, f_X10_kept_b80, nI_1]
            exact this
          | some j =>
            have hj := ktS_lt i j e
            rw [e] at this
            simp only at this
            rw [show ktI (some j) = nI j from rfl, if_neg (nI_lt0 (by omega)), fd2 (by omega)]
            simp only [Option.bind_some]
            rw [fd2 (by omega)]
            simp only [Option.bind_some]
            rw [f_X10_kept_b75, f_X10_kept_b79, f_X10_kept_b80, f_X10_kept_b80, nI_1]
            by_cases q2 : N 1 (120 + 7 * j + 2) ≤ N 1 (120 + 7 * i + 2)
            · rw [if_pos q2] at this ⊢
              exact this
            · rw [if_neg q2] at this ⊢
              exact this
      · rw [if_neg q5]
        exact b48 (fun z => q5 z.1)
  exact key n FU 0 (by omega) (by unfold FU; omega)
theorem q_kept {M N : Mem} (h : Rel M N) (x1 : Int32) : Eqv (f_X9_kept x1 M) (f_X10_kept x1 N) := by
  obtain ⟨n, t, hv⟩ := RV.of (Or.inl rfl) h.1
  have hs := hv.sv
  have hn := hs.2.1
  unfold f_X9_kept f_X9_kept_b0 f_X10_kept f_X10_kept_b0
  rw [isBelowN x1 9 9 (by decide), isCape_eq]
  simp only [Option.bind_some, b2i_eq0]
  by_cases hc : 0 ≤ x1.toInt ∧ x1.toInt < 9
  rotate_left
  · rw [if_pos hc, if_pos (show ¬ (0 ≤ x1.toInt ∧ x1.toInt < 9) by omega)]
    exact ⟨_, M, N, rfl, rfl, h⟩
  rw [if_neg (nn hc), if_neg (nn (show 0 ≤ x1.toInt ∧ x1.toInt < 9 by omega))]
  obtain ⟨c, hc9, rfl⟩ := i_of (n := 9) hc.1 hc.2
  rw [ktC_eq hv hc9, ktM_eq hs]
  exact ⟨_, M, N, rfl, rfl, h⟩
theorem and0 (x y : Int32) : x &&& y = 0 ↔ ∀ k, k < 32 → ¬ (x.toBitVec.getLsbD k = true ∧ y.toBitVec.getLsbD k = true) := by
  constructor
  · intro e k hk hz
    have z : (x &&& y).toBitVec.getLsbD k = (0#32).getLsbD k := by rw [e]; rfl
    rw [Int32.toBitVec_and, BitVec.getLsbD_and, hz.1, hz.2, BitVec.getLsbD_zero] at z
    exact absurd z (by decide)
  · intro h
    apply Int32.toBitVec_inj.mp
    apply BitVec.eq_of_getLsbD_eq
    intro k hk
    rw [Int32.toBitVec_and, BitVec.getLsbD_and]
    show _ = (0#32).getLsbD k
    rw [BitVec.getLsbD_zero]
    have := h k hk
    cases e1 : x.toBitVec.getLsbD k with
    | false => rfl
    | true =>
      cases e2 : y.toBitVec.getLsbD k with
      | false => rfl
      | true => exact absurd ⟨e1, e2⟩ this
theorem bit1 : ∀ c, c < 9 → ∀ k, k < 32 → (((1 : Int32) <<< (nI c &&& 31)).toBitVec.getLsbD k = decide (k = c)) := by decide +kernel
theorem capesNamed_eq {M : Mem} {S : Row} {n t x : Nat} (h : RV M S 48 n t) (hx : x < 10) : ∃ w : Int32, f_X0_capesNamed 48 (nI x) M = some (w, M) ∧ ∀ k, k < 32 → (w.toBitVec.getLsbD k = true ↔ ∃ j, j < n ∧ S (120 + 7 * j + 6) = nI x ∧ S (120 + 7 * j + 5) = nI k) := by
  have hn := h.2.2.1.1
  have hrc := rf_co 48 h.1
  have key : ∀ (r fuel i : Nat) (w : Int32), i + r = n → r < fuel → (∀ k, k < 32 → (w.toBitVec.getLsbD k = true ↔ ∃ j, j < i ∧ S (120 + 7 * j + 6) = nI x ∧ S (120 + 7 * j + 5) = nI k)) → ∃ w' : Int32, f_X0_capesNamed_b4 fuel 48 (nI x) w (nI i) M = some (w', M) ∧ ∀ k, k < 32 → (w'.toBitVec.getLsbD k = true ↔ ∃ j, j < n ∧ S (120 + 7 * j + 6) = nI x ∧ S (120 + 7 * j + 5) = nI k) := by
    intro r
    induction r with
    | zero =>
      intro fuel i w hi hf hw
      obtain ⟨f, rfl⟩ : ∃ f, fuel = f + 1 := ⟨fuel - 1, by omega⟩
      have : i = n := by omega
      subst this
      rw [f_X0_capesNamed_b4, h.2.1, if_pos (nI_le (Nat.le_refl _) (by omega))]
      exact ⟨w, rfl, hw⟩
    | succ r ih =>
      intro fuel i w hi hf hw
      obtain ⟨f, rfl⟩ : ∃ f, fuel = f + 1 := ⟨fuel - 1, by omega⟩
      obtain ⟨ok, eq⟩ := h.2.2.1.2.2 i (by omega)
      have e5 : M (48 + 8 + i) 5 = uc (S (120 + 7 * i + 5)) := eq.2.2.2.2.2.1
      have e6 : M (48 + 8 + i) 6 = uc (S (120 + 7 * i + 6)) := eq.2.2.2.2.2.2
      have r0 : rfC 49 i = 48 + 8 + i := rf_mk (co := 48) (Or.inl rfl) (by omega)
      have u6 := uc_eq (x := S (120 + 7 * i + 6)) (c := x) ok.2.2.2.2.2.2.1 (by omega)
      have u5 := uc_none (x := S (120 + 7 * i + 5)) ok.2.2.2.2.2.1.1
      have no : ¬ (S (120 + 7 * i + 6) = nI x ∧ ¬ S (120 + 7 * i + 5) < 0) → ∀ k, k < 32 → (w.toBitVec.getLsbD k = true ↔ ∃ j, j < i + 1 ∧ S (120 + 7 * j + 6) = nI x ∧ S (120 + 7 * j + 5) = nI k) := fun q k hk => by
        rw [hw k hk]
        constructor
        · rintro ⟨j, j1, j2⟩
          exact ⟨j, by omega, j2⟩
        · rintro ⟨j, j1, j2, j3⟩
          by_cases z : j = i
          · subst z
            exact absurd ⟨j2, by rw [j3]; exact nI_lt0 (by omega)⟩ q
          · exact ⟨j, by omega, j2, j3⟩
      rw [f_X0_capesNamed_b4, h.2.1, if_neg (nI_ge (by omega) (by omega)), if_pos (ixb_t (show i < 24 by omega) (by omega)), if_pos (ixb_t (show i < 24 by omega) (by omega)), if_pos (ixb_t (show i < 24 by omega) (by omega)), ix_nI (by omega), show rfC 48 0 = 49 from hrc.1, r0, e5, e6]
      by_cases q6 : S (120 + 7 * i + 6) = nI x
      · rw [if_pos (u6.mpr q6)]
        by_cases q5 : S (120 + 7 * i + 5) < 0
        · rw [if_pos (u5.mpr q5), f_X0_capesNamed_b53, nI_1]
          exact ih f (i + 1) w (by omega) (by omega) (no (fun z => z.2 q5))
        · have p5 : 0 ≤ (S (120 + 7 * i + 5)).toInt := by rw [i_lt, i_0] at q5; omega
          obtain ⟨c, hc, ec⟩ := i_of (n := 9) p5 (by have := ok.2.2.2.2.2.1; omega)
          have uv : uc (S (120 + 7 * i + 5)) = nI c := by
            unfold uc
            rw [if_pos (by rw [i_le, i_0]; exact p5), ec]
          rw [if_neg (fun z => q5 (u5.mp z)), uv, f_X0_capesNamed_b53, nI_1]
          refine ih f (i + 1) _ (by omega) (by omega) (fun k hk => ?_)
          rw [Int32.toBitVec_or, BitVec.getLsbD_or, bit1 c hc k hk, Bool.or_eq_true, hw k hk, decide_eq_true_eq]
          constructor
          · rintro (⟨j, j1, j2⟩ | z)
            · exact ⟨j, by omega, j2⟩
            · exact ⟨i, by omega, q6, by rw [ec, z]⟩
          · rintro ⟨j, j1, j2, j3⟩
            by_cases z : j = i
            · subst z
              rw [ec] at j3
              exact Or.inr ((nI_eq (by omega) (by omega)).mp j3).symm
            · exact Or.inl ⟨j, by omega, j2, j3⟩
      · rw [if_neg (fun z => q6 (u6.mp z)), f_X0_capesNamed_b53, nI_1]
        exact ih f (i + 1) w (by omega) (by omega) (no (fun z => q6 z.1))
  exact key n FU 0 0 (by omega) (by unfold FU; omega) (fun k hk => ⟨fun z => absurd z (by show ¬ (0#32).getLsbD k = true; rw [BitVec.getLsbD_zero]; decide), fun ⟨j, z, _⟩ => absurd z (Nat.not_lt_zero j)⟩)
abbrev SmP (S : Row) (a b i j : Nat) : Prop := S (120 + 7 * i + 6) = nI a ∧ S (120 + 7 * j + 6) = nI b ∧ ¬ S (120 + 7 * i + 5) < 0 ∧ S (120 + 7 * i + 5) = S (120 + 7 * j + 5)
theorem sameIn_eq {N : Mem} {n t a b i : Nat} (h : SV (N 1) n t) (hi : i < n) (A : Prop) (K : Int32 → Int32 → Int32 → Int32 → Mem → Option (Int32 × Mem)) : ∀ (r fuel j : Nat) (z : Int32), j + r = n → r < fuel → (z = 0 ∨ z = 1) → (z = 0 ↔ ¬ (A ∨ ∃ j', j' < j ∧ SmP (N 1) a b i j')) → ∃ z', f_X10_same_b51 K fuel (nI a) (nI b) z (nI i) (nI j) N = K (nI a) (nI b) z' (nI (i + 1)) N ∧ (z' = 0 ∨ z' = 1) ∧ (z' = 0 ↔ ¬ (A ∨ ∃ j', j' < n ∧ SmP (N 1) a b i j')) := by
  have hn := h.2.1
  intro r
  induction r with
  | zero =>
    intro fuel j z hj hf z1 z2
    obtain ⟨f, rfl⟩ : ∃ f, fuel = f + 1 := ⟨fuel - 1, by omega⟩
    have : j = n := by omega
    subst this
    rw [f_X10_same_b51, h.1, if_pos (nI_le (Nat.le_refl _) (by omega)), f_X10_same_b129, nI_1]
    exact ⟨z, rfl, z1, z2⟩
  | succ r ih =>
    intro fuel j z hj hf z1 z2
    obtain ⟨f, rfl⟩ : ∃ f, fuel = f + 1 := ⟨fuel - 1, by omega⟩
    rw [f_X10_same_b51, h.1, if_neg (nI_ge (by omega) (by omega))]
    have yes : (A ∨ ∃ j', j' < j + 1 ∧ SmP (N 1) a b i j') → ∃ z', f_X10_same_b117 K (f_X10_same_b51 K f) (nI a) (nI b) (nI i) (nI j) N = K (nI a) (nI b) z' (nI (i + 1)) N ∧ (z' = 0 ∨ z' = 1) ∧ (z' = 0 ↔ ¬ (A ∨ ∃ j', j' < n ∧ SmP (N 1) a b i j')) := fun q => by
      rw [f_X10_same_b117, f_X10_same_b122, nI_1]
      exact ih f (j + 1) 1 (by omega) (by omega) (Or.inr rfl) ⟨fun w => absurd w (by decide), fun w => absurd q w⟩
    by_cases q : z = 0
    · rw [if_pos q]
      have z3 := z2.mp q
      have no : ¬ SmP (N 1) a b i j → ∃ z', f_X10_same_b121 K (f_X10_same_b51 K f) (nI a) (nI b) (nI i) (nI j) N = K (nI a) (nI b) z' (nI (i + 1)) N ∧ (z' = 0 ∨ z' = 1) ∧ (z' = 0 ↔ ¬ (A ∨ ∃ j', j' < n ∧ SmP (N 1) a b i j')) := fun q => by
        rw [f_X10_same_b121, f_X10_same_b122, nI_1]
        refine ih f (j + 1) 0 (by omega) (by omega) (Or.inl rfl) ⟨fun _ w => ?_, fun _ => rfl⟩
        rcases w with w | ⟨j', w1, w2⟩
        · exact z3 (Or.inl w)
        · by_cases e : j' = j
          · subst e; exact q w2
          · exact z3 (Or.inr ⟨j', by omega, w2⟩)
      rw [fd6 (by omega)]
      simp only [Option.bind_some]
      by_cases q1 : N 1 (120 + 7 * i + 6) = nI a
      · rw [if_pos q1, fd6 (by omega)]
        simp only [Option.bind_some]
        by_cases q2 : N 1 (120 + 7 * j + 6) = nI b
        · rw [if_pos q2, fd5 (by omega)]
          simp only [Option.bind_some]
          by_cases q3 : N 1 (120 + 7 * i + 5) < 0
          · rw [if_pos q3]
            exact no (fun w => w.2.2.1 q3)
          · rw [if_neg q3, fd5 (by omega)]
            simp only [Option.bind_some]
            rw [fd5 (by omega)]
            simp only [Option.bind_some]
            by_cases q4 : N 1 (120 + 7 * i + 5) = N 1 (120 + 7 * j + 5)
            · rw [if_pos q4]
              exact yes (Or.inr ⟨j, by omega, q1, q2, q3, q4⟩)
            · rw [if_neg q4]
              exact no (fun w => q4 w.2.2.2)
        · rw [if_neg q2]
          exact no (fun w => q2 w.2.1)
      · rw [if_neg q1]
        exact no (fun w => q1 w.1)
    · rw [if_neg q]
      refine yes ?_
      have z3 : A ∨ ∃ j', j' < j ∧ SmP (N 1) a b i j' := Classical.byContradiction (fun w => q (z2.mpr w))
      rcases z3 with w | ⟨j', w1, w2⟩
      · exact Or.inl w
      · exact Or.inr ⟨j', by omega, w2⟩
theorem sameM_eq {N : Mem} {n t a b : Nat} (h : SV (N 1) n t) : ∃ z, f_X10_same_b37 FU (nI a) (nI b) 0 0 N = some (z, N) ∧ (z = 0 ∨ z = 1) ∧ (z = 0 ↔ ¬ ∃ i, i < n ∧ ∃ j, j < n ∧ SmP (N 1) a b i j) := by
  have hn := h.2.1
  have key : ∀ (r fuel i : Nat) (z : Int32), i + r = n → r < fuel → (z = 0 ∨ z = 1) → (z = 0 ↔ ¬ ∃ i', i' < i ∧ ∃ j, j < n ∧ SmP (N 1) a b i' j) → ∃ z', f_X10_same_b37 fuel (nI a) (nI b) z (nI i) N = some (z', N) ∧ (z' = 0 ∨ z' = 1) ∧ (z' = 0 ↔ ¬ ∃ i, i < n ∧ ∃ j, j < n ∧ SmP (N 1) a b i j) := by
    intro r
    induction r with
    | zero =>
      intro fuel i z hi hf z1 z2
      obtain ⟨f, rfl⟩ : ∃ f, fuel = f + 1 := ⟨fuel - 1, by omega⟩
      have : i = n := by omega
      subst this
      refine ⟨z, ?_, z1, z2⟩
      rw [f_X10_same_b37, h.1, if_pos (nI_le (Nat.le_refl _) (by omega)), f_X10_same_b135]
      rcases z1 with rfl | rfl
      · rw [if_pos rfl]
      · rw [if_neg (by decide)]
    | succ r ih =>
      intro fuel i z hi hf z1 z2
      obtain ⟨f, rfl⟩ : ∃ f, fuel = f + 1 := ⟨fuel - 1, by omega⟩
      obtain ⟨z', e, z3, z4⟩ := sameIn_eq h (show i < n by omega) (a := a) (b := b) (∃ i', i' < i ∧ ∃ j, j < n ∧ SmP (N 1) a b i' j) (f_X10_same_b37 f) n FU 0 z (by omega) (by unfold FU; omega) z1 (by
        rw [z2]
        refine not_congr ⟨Or.inl, ?_⟩
        rintro (w | ⟨j, w, -⟩)
        · exact w
        · exact absurd w (Nat.not_lt_zero j))
      have e : f_X10_same_b51 (f_X10_same_b37 f) FU (nI a) (nI b) z (nI i) 0 N = _ := e
      rw [f_X10_same_b37, h.1, if_neg (nI_ge (by omega) (by omega)), e]
      exact ih f (i + 1) z' (by omega) (by omega) z3 (by
        rw [z4]
        refine not_congr ⟨?_, ?_⟩
        · rintro (⟨i', w1, w2⟩ | w)
          · exact ⟨i', by omega, w2⟩
          · exact ⟨i, by omega, w⟩
        · rintro ⟨i', w1, w2⟩
          by_cases q : i' = i
          · subst q; exact Or.inr w2
          · exact Or.inl ⟨i', by omega, w2⟩)
  exact key n FU 0 0 (by omega) (by unfold FU; omega) (Or.inl rfl) ⟨fun _ => fun ⟨i, w, _⟩ => absurd w (Nat.not_lt_zero i), fun _ => rfl⟩
theorem q_same {M N : Mem} (h : Rel M N) (x1 x2 : Int32) : Eqv (f_X9_same x1 x2 M) (f_X10_same x1 x2 N) := by
  obtain ⟨n, t, hv⟩ := RV.of (Or.inl rfl) h.1
  have hs := hv.sv
  have hn := hs.2.1
  unfold f_X9_same f_X9_same_b0 f_X10_same f_X10_same_b0
  rw [areTwo10, isInN x1 0 9 0 9 (by decide) (by decide)]
  simp only [Option.bind_some, b2i_eq0]
  rw [isInN x2 0 9 0 9 (by decide) (by decide)]
  simp only [Option.bind_some, b2i_eq0]
  by_cases hc : (0 ≤ x1.toInt ∧ x1.toInt < 10) ∧ (0 ≤ x2.toInt ∧ x2.toInt < 10) ∧ x1 ≠ x2
  rotate_left
  · rw [if_pos hc]
    have e : ∀ (o : Option (Int32 × Mem)), (if ¬ (0 ≤ x1.toInt ∧ x1.toInt ≤ 9) then some ((-1000000001 : Int32), N) else if ¬ (0 ≤ x2.toInt ∧ x2.toInt ≤ 9) then some ((-1000000001 : Int32), N) else if x1 = x2 then some ((-1000000001 : Int32), N) else o) = some ((-1000000001 : Int32), N) := fun o => by
      by_cases q1 : 0 ≤ x1.toInt ∧ x1.toInt ≤ 9
      · rw [if_neg (nn q1)]
        by_cases q2 : 0 ≤ x2.toInt ∧ x2.toInt ≤ 9
        · rw [if_neg (nn q2)]
          by_cases q3 : x1 = x2
          · rw [if_pos q3]
          · exact absurd ⟨⟨q1.1, by omega⟩, ⟨q2.1, by omega⟩, q3⟩ hc
        · rw [if_pos q2]
      · rw [if_pos q1]
    rw [e]
    exact ⟨_, M, N, rfl, rfl, h⟩
  rw [if_neg (nn hc), if_neg (nn (show 0 ≤ x1.toInt ∧ x1.toInt ≤ 9 by omega)), if_neg (nn (show 0 ≤ x2.toInt ∧ x2.toInt ≤ 9 by omega)), if_neg hc.2.2]
  obtain ⟨a, ha, rfl⟩ := i_of (n := 10) hc.1.1 hc.1.2
  obtain ⟨b, hb, rfl⟩ := i_of (n := 10) hc.2.1.1 hc.2.1.2
  obtain ⟨w1, e1, f1⟩ := capesNamed_eq hv ha
  obtain ⟨w2, e2, f2⟩ := capesNamed_eq hv hb
  obtain ⟨z, e3, z1, z2⟩ := sameM_eq hs (a := a) (b := b)
  rw [e1]
  simp only [Option.bind_some]
  rw [e2, e3]
  simp only [Option.bind_some]
  have w : w1 &&& w2 = 0 ↔ z = 0 := by
    rw [and0, z2]
    constructor
    · rintro g ⟨i, hi, j, hj, p1, p2, p3, p4⟩
      obtain ⟨c, hc9, ec⟩ := i_of (n := 9) (x := N 1 (120 + 7 * i + 5)) (by rw [i_lt, i_0] at p3; omega) (by have := (hs.2.2.1 i hi).2.2.2.2.2.1; omega)
      exact g c (by omega) ⟨(f1 c (by omega)).mpr ⟨i, hi, p1, ec⟩, (f2 c (by omega)).mpr ⟨j, hj, p2, by rw [← p4]; exact ec⟩⟩
    · intro g k hk ⟨g1, g2⟩
      obtain ⟨i, hi, p1, p2⟩ := (f1 k hk).mp g1
      obtain ⟨j, hj, p3, p4⟩ := (f2 k hk).mp g2
      exact g ⟨i, hi, j, hj, p1, p3, by rw [p2]; exact nI_lt0 (by omega), by rw [p2, p4]⟩
  rcases z1 with rfl | rfl
  · rw [if_pos (w.mpr rfl)]
    exact ⟨_, M, N, rfl, rfl, h⟩
  · rw [if_neg (fun q => absurd (w.mp q) (by decide))]
    exact ⟨_, M, N, rfl, rfl, h⟩
