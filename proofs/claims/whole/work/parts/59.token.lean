/-! WORDS AND SIGNS -/
abbrev lett (x : Int32) : Prop := 97 ≤ x.toInt ∧ x.toInt ≤ 122
abbrev digi (x : Int32) : Prop := 48 ≤ x.toInt ∧ x.toInt ≤ 57
/-- the tape, as both have it -/
def Tp (T : Row) (L : Nat) (M N : Mem) : Prop := L ≤ 96 ∧ M 1 1 = nI L ∧ N 0 13 = nI L ∧ ∀ i, i < L → M 2 i = T i ∧ N 12 i = T i ∧ (0 ≤ (T i).toInt ∧ (T i).toInt ≤ 255)
theorem Tp.cg {T : Row} {L : Nat} {M N M' N' : Mem} (h : Tp T L M N) (a : M' 1 1 = M 1 1) (b : M' 2 = M 2) (c : N' 0 13 = N 0 13) (d : N' 12 = N 12) : Tp T L M' N' := ⟨h.1, by rw [a]; exact h.2.1, by rw [c]; exact h.2.2.1, by rw [b, d]; exact h.2.2.2⟩
theorem letC_eq (x : Int32) (M : Mem) : f_X4_isLetter x M = some (b2i (lett x), M) := by
  unfold f_X4_isLetter f_X4_isLetter_b0
  rw [isWithinN x 97 122 97 122 (by decide) (by decide), bsm]
  exact if_pos (b2i_z01 _)
theorem digC_eq (x : Int32) (M : Mem) : f_X4_isDigit x M = some (b2i (digi x), M) := by
  unfold f_X4_isDigit f_X4_isDigit_b0
  rw [isWithinN x 48 57 48 57 (by decide) (by decide), bsm]
  exact if_pos (b2i_z01 _)
theorem letM_eq {T : Row} {L i : Nat} {M N : Mem} (h : Tp T L M N) (hi : i ≤ L) : f_X10_isLetter (nI i) N = some (b2i (i < L ∧ lett (T i)), N) := by
  have hL := h.1
  unfold f_X10_isLetter f_X10_isLetter_b0
  rw [h.2.2.1]
  by_cases q : i < L
  · rw [if_neg (nI_ge q (by omega)), if_pos (ixb_t (by omega) (by omega)), ix_nI (by omega), (h.2.2.2 i q).2.1, isInN _ 97 122 97 122 (by decide) (by decide), bsm]
    dsimp only
    simp only [b2i_eq0]
    unfold b2i
    by_cases q2 : lett (T i)
    · rw [if_neg (nn q2), if_pos ⟨q, q2⟩]
    · rw [if_pos q2, if_neg (fun z => q2 z.2)]
  · unfold b2i
    rw [if_pos (nI_le (by omega) (by omega)), if_neg (fun z => q z.1)]
theorem digM_eq {T : Row} {L i : Nat} {M N : Mem} (h : Tp T L M N) (hi : i ≤ L) : f_X10_isDigit (nI i) N = some (b2i (i < L ∧ digi (T i)), N) := by
  have hL := h.1
  unfold f_X10_isDigit f_X10_isDigit_b0
  rw [h.2.2.1]
  by_cases q : i < L
  · rw [if_neg (nI_ge q (by omega)), if_pos (ixb_t (by omega) (by omega)), ix_nI (by omega), (h.2.2.2 i q).2.1, isInN _ 48 57 48 57 (by decide) (by decide), bsm]
    dsimp only
    simp only [b2i_eq0]
    unfold b2i
    by_cases q2 : digi (T i)
    · rw [if_neg (nn q2), if_pos ⟨q, q2⟩]
    · rw [if_pos q2, if_neg (fun z => q2 z.2)]
  · unfold b2i
    rw [if_pos (nI_le (by omega) (by omega)), if_neg (fun z => q z.1)]
theorem blanks {T : Row} {L : Nat} (s0 x2 s0' x2' : Int32) : ∀ (r fuel i : Nat) (M N : Mem), i + r = L → r < fuel → Tp T L M N → M 1 2 = nI i → N 0 15 = nI i → ∃ j M' N', f_X4_step_b35 fuel s0 x2 M = f_X4_step_b73 s0 x2 M' ∧ f_X10_goesOn_b34 fuel s0' x2' N = f_X10_goesOn_b72 s0' x2' N' ∧ i ≤ j ∧ j ≤ L ∧ M' 1 2 = nI j ∧ N' 0 15 = nI j ∧ (∀ x, x ≠ 1 → M' x = M x) ∧ (∀ k, k ≠ 2 → M' 1 k = M 1 k) ∧ (∀ x, x ≠ 0 → N' x = N x) ∧ ∀ k, k ≠ 15 → N' 0 k = N 0 k := by
  intro r
  induction r with
  | zero =>
    intro fuel i M N hi hf hT e1 e2
    obtain ⟨f, rfl⟩ : ∃ f, fuel = f + 1 := ⟨fuel - 1, by omega⟩
    have hL := hT.1
    have : i = L := by omega
    subst this
    rw [f_X4_step_b35, f_X10_goesOn_b34, hT.2.1, hT.2.2.1, e1, e2, if_pos (nI_le (Nat.le_refl _) (by omega)), if_pos (nI_le (Nat.le_refl _) (by omega))]
    exact ⟨i, M, N, rfl, rfl, Nat.le_refl _, Nat.le_refl _, e1, e2, fun _ _ => rfl, fun _ _ => rfl, fun _ _ => rfl, fun _ _ => rfl⟩
  | succ r ih =>
    intro fuel i M N hi hf hT e1 e2
    obtain ⟨f, rfl⟩ : ∃ f, fuel = f + 1 := ⟨fuel - 1, by omega⟩
    have hL := hT.1
    obtain ⟨t1, t2, -⟩ := hT.2.2.2 i (by omega)
    have i9 : ixb (nI i) 96 = true := ixb_t (by omega) (by omega)
    rw [f_X4_step_b35, f_X10_goesOn_b34, hT.2.1, hT.2.2.1, e1, e2, if_neg (nI_ge (by omega) (by omega)), if_neg (nI_ge (by omega) (by omega)), if_pos i9, if_pos i9, ix_nI (by omega), t1, t2, nI_1]
    by_cases q : T i = 32
    · rw [if_pos q, if_pos q]
      obtain ⟨j, M', N', a1, a2, a3, a4, a5, a6, a7, a8, a9, a10⟩ := ih f (i + 1) (mset M 1 2 (nI (i + 1))) (mset N 0 15 (nI (i + 1))) (by omega) (by omega) (hT.cg (by rw [mset_k (by omega)]) (mset_ne (by omega)) (by rw [mset_k (by omega)]) (mset_ne (by omega))) (by rw [mset_at]) (by rw [mset_at])
      exact ⟨j, M', N', a1, a2, by omega, a4, a5, a6, fun x hx => by rw [a7 x hx, mset_ne hx], fun k hk => by rw [a8 k hk, mset_k hk], fun x hx => by rw [a9 x hx, mset_ne hx], fun k hk => by rw [a10 k hk, mset_k hk]⟩
    · rw [if_neg q, if_neg q]
      exact ⟨i, M, N, rfl, rfl, Nat.le_refl _, by omega, e1, e2, fun _ _ => rfl, fun _ _ => rfl, fun _ _ => rfl, fun _ _ => rfl⟩
theorem letters {T : Row} {L : Nat} (tt : Int32) : ∀ (r fuel i : Nat) (M N : Mem), i + r = L → r < fuel → Tp T L M N → M 1 3 = nI i → N 0 15 = nI i → ∃ e M' N', f_X4_takeLetters_b5 fuel M = some (0, M') ∧ f_X10_goesOn_b128 fuel tt N = f_X10_goesOn_b152 tt N' ∧ i ≤ e ∧ e ≤ L ∧ (∀ j, i ≤ j → j < e → lett (T j)) ∧ (i < L → lett (T i) → i < e) ∧ M' 1 3 = nI e ∧ N' 0 15 = nI e ∧ (∀ x, x ≠ 1 → M' x = M x) ∧ (∀ k, k ≠ 3 → M' 1 k = M 1 k) ∧ (∀ x, x ≠ 0 → N' x = N x) ∧ ∀ k, k ≠ 15 → N' 0 k = N 0 k := by
  intro r
  induction r with
  | zero =>
    intro fuel i M N hi hf hT e1 e2
    obtain ⟨f, rfl⟩ : ∃ f, fuel = f + 1 := ⟨fuel - 1, by omega⟩
    have hL := hT.1
    have : i = L := by omega
    subst this
    rw [f_X4_takeLetters_b5, f_X10_goesOn_b128, hT.2.1, e1, e2, if_pos (nI_le (Nat.le_refl _) (by omega)), letM_eq hT (Nat.le_refl _), bsm]
    dsimp only
    rw [if_pos (by rw [b2i_eq0]; omega)]
    exact ⟨i, M, N, rfl, rfl, Nat.le_refl _, Nat.le_refl _, fun j _ _ => by omega, fun h => by omega, e1, e2, fun _ _ => rfl, fun _ _ => rfl, fun _ _ => rfl, fun _ _ => rfl⟩
  | succ r ih =>
    intro fuel i M N hi hf hT e1 e2
    obtain ⟨f, rfl⟩ : ∃ f, fuel = f + 1 := ⟨fuel - 1, by omega⟩
    have hL := hT.1
    obtain ⟨t1, t2, -⟩ := hT.2.2.2 i (by omega)
    have i9 : ixb (nI i) 96 = true := ixb_t (by omega) (by omega)
    rw [f_X4_takeLetters_b5, f_X10_goesOn_b128, hT.2.1, e1, e2, if_neg (nI_ge (by omega) (by omega)), if_pos i9, ix_nI (by omega), t1, letC_eq, letM_eq hT (by omega)]
    simp only [bsm, b2i_eq0]
    by_cases q : lett (T i)
    · rw [if_neg (nn q), if_neg (nn ⟨by omega, q⟩), e1, e2, nI_1]
      obtain ⟨e, M', N', a1, a2, a3, a4, a5, -, a6, a7, a8, a9, a10, a11⟩ := ih f (i + 1) (mset M 1 3 (nI (i + 1))) (mset N 0 15 (nI (i + 1))) (by omega) (by omega) (hT.cg (by rw [mset_k (by omega)]) (mset_ne (by omega)) (by rw [mset_k (by omega)]) (mset_ne (by omega))) (by rw [mset_at]) (by rw [mset_at])
      refine ⟨e, M', N', a1, a2, by omega, a4, fun j h1 h2 => ?_, fun _ _ => by omega, a6, a7, fun x hx => by rw [a8 x hx, mset_ne hx], fun k hk => by rw [a9 k hk, mset_k hk], fun x hx => by rw [a10 x hx, mset_ne hx], fun k hk => by rw [a11 k hk, mset_k hk]⟩
      by_cases z : j = i
      · subst z; exact q
      · exact a5 j (by omega) h2
    · rw [if_pos q, if_pos (fun z => q z.2)]
      exact ⟨i, M, N, rfl, rfl, Nat.le_refl _, by omega, fun j _ _ => by omega, fun _ h => absurd h q, e1, e2, fun _ _ => rfl, fun _ _ => rfl, fun _ _ => rfl, fun _ _ => rfl⟩
theorem digits {T : Row} {L b : Nat} (tt : Int32) : ∀ (r fuel i : Nat) (M N : Mem), i + r = L → r < fuel → b ≤ i → Tp T L M N → M 1 3 = nI i → N 0 15 = nI i → N 0 14 = nI b → (i - b ≤ 4 → ∃ w, w < 10 ^ (i - b) ∧ M 1 5 = nI w ∧ N 0 17 = nI w) → ∃ e M' N', f_X4_takeDigits_b5 fuel M = f_X4_takeDigits_b68 M' ∧ f_X10_goesOn_b214 fuel tt N = f_X10_goesOn_b282 tt N' ∧ i ≤ e ∧ e ≤ L ∧ (i < L → digi (T i) → i < e) ∧ M' 1 3 = nI e ∧ N' 0 15 = nI e ∧ (e - b ≤ 4 → ∃ w, w < 10 ^ (e - b) ∧ M' 1 5 = nI w ∧ N' 0 17 = nI w) ∧ (∀ x, x ≠ 1 → M' x = M x) ∧ (∀ k, k ≠ 3 → k ≠ 5 → M' 1 k = M 1 k) ∧ (∀ x, x ≠ 0 → N' x = N x) ∧ ∀ k, k ≠ 15 → k ≠ 17 → N' 0 k = N 0 k := by
  intro r
  induction r with
  | zero =>
    intro fuel i M N hi hf hb hT e1 e2 e3 e4
    obtain ⟨f, rfl⟩ : ∃ f, fuel = f + 1 := ⟨fuel - 1, by omega⟩
    have hL := hT.1
    have : i = L := by omega
    subst this
    rw [f_X4_takeDigits_b5, f_X10_goesOn_b214, hT.2.1, e1, e2, if_pos (nI_le (Nat.le_refl _) (by omega)), digM_eq hT (Nat.le_refl _), bsm]
    dsimp only
    rw [if_pos (by rw [b2i_eq0]; omega)]
    exact ⟨i, M, N, rfl, rfl, Nat.le_refl _, Nat.le_refl _, fun h => by omega, e1, e2, e4, fun _ _ => rfl, fun _ _ _ => rfl, fun _ _ => rfl, fun _ _ _ => rfl⟩
  | succ r ih =>
    intro fuel i M N hi hf hb hT e1 e2 e3 e4
    obtain ⟨f, rfl⟩ : ∃ f, fuel = f + 1 := ⟨fuel - 1, by omega⟩
    have hL := hT.1
    obtain ⟨t1, t2, -⟩ := hT.2.2.2 i (by omega)
    have i9 : ixb (nI i) 96 = true := ixb_t (by omega) (by omega)
    rw [f_X4_takeDigits_b5, f_X10_goesOn_b214, hT.2.1, e1, e2, if_neg (nI_ge (by omega) (by omega)), if_pos i9, ix_nI (by omega), t1, digC_eq, digM_eq hT (by omega)]
    simp only [bsm, b2i_eq0]
    by_cases q : digi (T i)
    · have dg : ∃ g, g < 10 ∧ T i = nI (48 + g) := by
        obtain ⟨g, g1, g2⟩ := i_of (n := 58) (x := T i) (by omega) (by omega)
        have : (T i).toInt = (g : Int) := by rw [g2, nI_toInt (by omega)]
        exact ⟨g - 48, by omega, by rw [g2]; congr 1; omega⟩
      obtain ⟨g, g1, g2⟩ := dg
      rw [if_neg (nn q), if_neg (nn ⟨by omega, q⟩), e1, e2, e3, if_pos i9, ix_nI (by omega), t1, t2, mset_k (show (3 : Nat) ≠ 5 by omega), e1, nI_1, show nI i - nI b = nI (i - b) from pk_sub (by omega)]
      have fin : ∀ v' : Int32, (i + 1 - b ≤ 4 → ∃ w, w < 10 ^ (i + 1 - b) ∧ M 1 5 * 10 + T i - 48 = nI w ∧ v' = nI w) → ∃ e M' N', f_X4_takeDigits_b5 f (mset (mset M 1 5 (M 1 5 * 10 + T i - 48)) 1 3 (nI (i + 1))) = f_X4_takeDigits_b68 M' ∧ f_X10_goesOn_b266 (f_X10_goesOn_b214 f) tt v' N = f_X10_goesOn_b282 tt N' ∧ i ≤ e ∧ e ≤ L ∧ (i < L → digi (T i) → i < e) ∧ M' 1 3 = nI e ∧ N' 0 15 = nI e ∧ (e - b ≤ 4 → ∃ w, w < 10 ^ (e - b) ∧ M' 1 5 = nI w ∧ N' 0 17 = nI w) ∧ (∀ x, x ≠ 1 → M' x = M x) ∧ (∀ k, k ≠ 3 → k ≠ 5 → M' 1 k = M 1 k) ∧ (∀ x, x ≠ 0 → N' x = N x) ∧ ∀ k, k ≠ 15 → k ≠ 17 → N' 0 k = N 0 k := by
        intro v' hv'
        rw [f_X10_goesOn_b266, mset_k (show (15 : Nat) ≠ 17 by omega), e2, nI_1]
        obtain ⟨e, M', N', a1, a2, a3, a4, -, a6, a7, a12, a8, a9, a10, a11⟩ := ih f (i + 1) (mset (mset M 1 5 (M 1 5 * 10 + T i - 48)) 1 3 (nI (i + 1))) (mset (mset N 0 17 v') 0 15 (nI (i + 1))) (by omega) (by omega) (by omega) (hT.cg (by rw [mset_k (by omega), mset_k (by omega)]) (by rw [mset_ne (by omega), mset_ne (by omega)]) (by rw [mset_k (by omega), mset_k (by omega)]) (by rw [mset_ne (by omega), mset_ne (by omega)])) (by rw [mset_at]) (by rw [mset_at]) (by rw [mset_k (by omega), mset_k (by omega)]; exact e3) (fun y => by
            obtain ⟨w, w1, w2, w3⟩ := hv' y
            exact ⟨w, w1, by rw [mset_k (by omega), mset_at]; exact w2, by rw [mset_k (by omega), mset_at]; exact w3⟩)
        exact ⟨e, M', N', a1, a2, by omega, a4, fun _ _ => by omega, a6, a7, a12, fun x hx => by rw [a8 x hx, mset_ne hx, mset_ne hx], fun k h3 h5 => by rw [a9 k h3 h5, mset_k h3, mset_k h5], fun x hx => by rw [a10 x hx, mset_ne hx, mset_ne hx], fun k h15 h17 => by rw [a11 k h15 h17, mset_k h15, mset_k h17]⟩
      by_cases z : 4 ≤ i - b
      · rw [if_pos (show (4 : Int32) ≤ nI (i - b) from nI_le (a := 4) z (by omega))]
        exact fin _ (fun y => by omega)
      · rw [if_neg (show ¬ (4 : Int32) ≤ nI (i - b) from nI_ge (a := i - b) (b := 4) (by omega) (by omega)), if_pos i9]
        refine fin _ (fun y => ?_)
        obtain ⟨w, w1, w2, w3⟩ := e4 (by omega)
        have hpow : 10 ^ (i - b) ≤ 10 ^ 4 := Nat.pow_le_pow_right (by omega) (by omega)
        have hsucc : 10 ^ (i + 1 - b) = 10 ^ (i - b) * 10 := by rw [show i + 1 - b = (i - b) + 1 from by omega, Nat.pow_succ]
        refine ⟨10 * w + g, by rw [hsucc]; omega, ?_, ?_⟩
        · rw [w2, g2, show (10 : Int32) = nI 10 from rfl, show (48 : Int32) = nI 48 from rfl, nI_mul, nI_add, pk_sub (by omega)]
          congr 1
          omega
        · rw [w3, g2, show (10 : Int32) = nI 10 from rfl, show (48 : Int32) = nI 48 from rfl, nI_mul, nI_add, pk_sub (by omega)]
          congr 1
          omega
    · rw [if_pos q, if_pos (fun z => q z.2)]
      exact ⟨i, M, N, rfl, rfl, Nat.le_refl _, by omega, fun _ h => absurd h q, e1, e2, e4, fun _ _ => rfl, fun _ _ _ => rfl, fun _ _ => rfl, fun _ _ _ => rfl⟩
/-- the word or sign at hand, as both have it -/
def Tk (T : Row) (b e : Nat) (M N : Mem) : Prop := (M 1 4 = 0 ∧ N 0 16 = 0) ∨ (b < e ∧ M 1 4 = 1 ∧ N 0 16 = 2 ∧ M 1 5 = N 0 17 ∧ (0 ≤ (N 0 17).toInt ∧ (N 0 17).toInt ≤ 9999)) ∨ (b < e ∧ M 1 4 = 2 ∧ N 0 16 = 1 ∧ N 0 18 = (if e = b + 1 then T b else 0) ∧ ∀ i, b ≤ i → i < e → lett (T i)) ∨ (b < e ∧ M 1 4 = 3 ∧ N 0 16 = 3 ∧ M 1 5 = T b ∧ N 0 18 = T b) ∨ (M 1 4 = 4 ∧ N 0 16 = 4)
/-- before a step -/
def Bf (e : Nat) (M N : Mem) : Prop := M 1 3 = nI e ∧ N 0 15 = nI e ∧ ((0 < e ∧ ((M 1 4 = 2 ∧ N 0 16 = 1) ∨ (M 1 4 = 1 ∧ N 0 16 = 2))) ∨ (M 1 4 ≠ 1 ∧ M 1 4 ≠ 2 ∧ N 0 16 ≠ 1 ∧ N 0 16 ≠ 2))
theorem stp_eq {T : Row} {L e0 : Nat} {M N : Mem} (hT : Tp T L M N) (he : e0 ≤ L) (hB : Bf e0 M N) : ∃ M' N' b e, f_X4_step M = some (0, M') ∧ f_X10_goesOn N = some (0, N') ∧ e0 ≤ b ∧ b ≤ e ∧ e ≤ L ∧ M' 1 2 = nI b ∧ N' 0 14 = nI b ∧ M' 1 3 = nI e ∧ N' 0 15 = nI e ∧ Tk T b e M' N' ∧ (∀ x, x ≠ 1 → M' x = M x) ∧ (∀ k, k ≠ 2 → k ≠ 3 → k ≠ 4 → k ≠ 5 → M' 1 k = M 1 k) ∧ (∀ x, x ≠ 0 → N' x = N x) ∧ ∀ k, (k < 14 ∨ 18 < k) → N' 0 k = N 0 k := by
  have hL := hT.1
  obtain ⟨m3, n15, hB⟩ := hB
  have run : ∀ s s' : Int32, (s = 0 ↔ s' = 0) → ∃ M' N' b e, f_X4_step_b35 FU s (nI e0) (mset M 1 2 (nI e0)) = some (0, M') ∧ f_X10_goesOn_b34 FU s' (nI e0) N = some (0, N') ∧ e0 ≤ b ∧ b ≤ e ∧ e ≤ L ∧ M' 1 2 = nI b ∧ N' 0 14 = nI b ∧ M' 1 3 = nI e ∧ N' 0 15 = nI e ∧ Tk T b e M' N' ∧ (∀ x, x ≠ 1 → M' x = M x) ∧ (∀ k, k ≠ 2 → k ≠ 3 → k ≠ 4 → k ≠ 5 → M' 1 k = M 1 k) ∧ (∀ x, x ≠ 0 → N' x = N x) ∧ ∀ k, (k < 14 ∨ 18 < k) → N' 0 k = N 0 k := by
    intro s s' hss
    obtain ⟨j, M1, N1, a1, a2, a3, a4, a5, a6, a7, a8, a9, a10⟩ := blanks (T := T) (L := L) s (nI e0) s' (nI e0) (L - e0) FU e0 (mset M 1 2 (nI e0)) N (by omega) (by unfold FU; omega) (hT.cg (by rw [mset_k (by omega)]) (mset_ne (by omega)) rfl rfl) (by rw [mset_at]) n15
    rw [a1, a2]
    have a7 : ∀ x, x ≠ 1 → M1 x = M x := fun x hx => by rw [a7 x hx, mset_ne hx]
    have a8 : ∀ k, k ≠ 2 → M1 1 k = M 1 k := fun k hk => by rw [a8 k hk, mset_k hk]
    -- the model's next word, tight or not
    obtain ⟨tt, htt, e72⟩ : ∃ tt : Int32, (tt = 0 ↔ ¬ (s ≠ 0 ∧ j = e0)) ∧ f_X10_goesOn_b72 s' (nI e0) N1 = f_X10_goesOn_b89 tt N1 := by
      rw [f_X10_goesOn_b72, f_X10_goesOn_b88, a6]
      by_cases q : s' = 0
      · rw [if_pos q]
        exact ⟨0, ⟨fun _ z => z.1 (hss.mpr q), fun _ => rfl⟩, rfl⟩
      · rw [if_neg q]
        by_cases q2 : j = e0
        · rw [if_pos (by rw [q2])]
          exact ⟨1, ⟨fun z => absurd z (by decide), fun z => absurd ⟨fun y => q (hss.mp y), q2⟩ z⟩, rfl⟩
        · rw [if_neg (nI_ne (by omega) (by omega) (fun y => q2 y.symm))]
          exact ⟨0, ⟨fun _ z => q2 z.2, fun _ => rfl⟩, rfl⟩
    rw [e72, f_X4_step_b73, f_X10_goesOn_b89, mset_k (show (2 : Nat) ≠ 3 by omega), mset_k (show (1 : Nat) ≠ 3 by omega), a5, a6, mset_at, mset_k (show (13 : Nat) ≠ 14 by omega), a8 1 (by omega), a10 13 (by omega), hT.2.1, hT.2.2.1, mset_ne (show (2 : Nat) ≠ 1 by omega), a7 2 (by omega)]
    have b173 : ∀ M2 : Mem, M2 1 2 = nI j → f_X4_step_b173 s (nI e0) M2 = (if s ≠ 0 ∧ M2 1 4 ≠ 0 ∧ j = e0 then some (0, mset M2 1 4 4) else some (0, M2)) := by
      intro M2 h2
      rw [f_X4_step_b173, h2]
      by_cases q : s = 0
      · rw [if_pos q, if_neg (fun z => z.1 q)]
      · rw [if_neg q]
        by_cases q2 : M2 1 4 = 0
        · rw [if_pos q2, if_neg (fun z => z.2.1 q2)]
        · rw [if_neg q2]
          by_cases q3 : j = e0
          · rw [if_pos (by rw [q3]), if_pos ⟨q, q2, q3⟩]
          · rw [if_neg (nI_ne (by omega) (by omega) q3), if_neg (fun z => q3 z.2.2)]
    by_cases qL : j < L
    rotate_left
    · have : j = L := by omega
      subst this
      rw [if_neg (nI_nlt (Nat.le_refl _) (by omega)), if_pos rfl, b173 _ (by rw [mset_k (by omega), mset_k (by omega)]; exact a5), mset_at, if_neg (fun z => z.2.1 rfl)]
      refine ⟨_, _, j, j, rfl, rfl, a3, Nat.le_refl _, Nat.le_refl _, by rw [mset_k (by omega), mset_k (by omega)]; exact a5, by rw [mset_k (by omega), mset_at], by rw [mset_k (by omega), mset_at], by rw [mset_k (by omega), mset_k (by omega)]; exact a6, Or.inl ⟨by rw [mset_at], by rw [mset_at]⟩, fun x hx => by rw [mset_ne hx, mset_ne hx]; exact a7 x hx, fun k h2 h3 h4 h5 => by rw [mset_k h4, mset_k h3]; exact a8 k h2, fun x hx => by rw [mset_ne hx, mset_ne hx]; exact a9 x hx, fun k hk => by rw [mset_k (by omega), mset_k (by omega)]; exact a10 k (by omega)⟩
    obtain ⟨t1, t2, t3⟩ := hT.2.2.2 j qL
    have i9 : ixb (nI j) 96 = true := ixb_t (by omega) (by omega)
    have hT1 : Tp T L (mset M1 1 3 (nI j)) (mset N1 0 14 (nI j)) := hT.cg (by rw [mset_k (by omega)]; exact a8 1 (by omega)) (by rw [mset_ne (by omega)]; exact a7 2 (by omega)) (by rw [mset_k (by omega)]; exact a10 13 (by omega)) (by rw [mset_ne (by omega)]; exact a9 12 (by omega))
    rw [if_pos (nI_lt qL (by omega)), if_neg (nI_ne (by omega) (by omega) (by omega)), if_pos i9, ix_nI (by omega), t1, letC_eq, letM_eq hT1 (by omega)]
    simp only [bsm, b2i_eq0]
    by_cases ql : lett (T j)
    · -- a word
      rw [if_neg (nn ql), if_neg (nn ⟨qL, ql⟩), f_X4_takeLetters, f_X4_takeLetters_b0]
      have hT2 : Tp T L (mset (mset M1 1 3 (nI j)) 1 4 2) (mset N1 0 14 (nI j)) := hT1.cg (by rw [mset_k (by omega)]) (mset_ne (by omega)) rfl rfl
      obtain ⟨e, M2, N2, c1, c2, c3, c4, c5, c6, c7, c8, c9, c10, c11, c12⟩ := letters (T := T) (L := L) tt (L - j) FU j _ _ (by omega) (by unfold FU; omega) hT2 (by rw [mset_k (by omega), mset_at]) (by rw [mset_k (by omega)]; exact a6)
      have hje := c6 qL ql
      have m2 : M2 1 2 = nI j := by rw [c10 2 (by omega), mset_k (by omega), mset_k (by omega)]; exact a5
      have m4 : M2 1 4 = 2 := by rw [c10 4 (by omega), mset_at]
      have fC : ∀ x, x ≠ 1 → M2 x = M x := fun x hx => by rw [c9 x hx, mset_ne hx, mset_ne hx]; exact a7 x hx
      have fk : ∀ k, k ≠ 2 → k ≠ 3 → k ≠ 4 → k ≠ 5 → M2 1 k = M 1 k := fun k h2 h3 h4 h5 => by rw [c10 k h3, mset_k h4, mset_k h3]; exact a8 k h2
      have n14 : N2 0 14 = nI j := by rw [c12 14 (by omega), mset_at]
      have gx : ∀ x, x ≠ 0 → N2 x = N x := fun x hx => by rw [c11 x hx, mset_ne hx]; exact a9 x hx
      have gk : ∀ k, (k < 14 ∨ 18 < k) → N2 0 k = N 0 k := fun k hk => by rw [c12 k (by omega), mset_k (by omega)]; exact a10 k (by omega)
      have b162 : ∀ tk : Int32, f_X10_goesOn_b162 tk N2 = some (0, mset (mset N2 0 16 tk) 0 18 (if e = j + 1 then T j else 0)) := by
        intro tk
        rw [f_X10_goesOn_b162, mset_k (show (15 : Nat) ≠ 16 by omega), mset_k (show (14 : Nat) ≠ 16 by omega), c8, n14, show nI e - nI j = nI (e - j) from pk_sub (by omega), if_pos i9, ix_nI (by omega), mset_ne (show (12 : Nat) ≠ 0 by omega), gx 12 (by omega), t2, f_X10_goesOn_b192, f_X10_goesOn_b192]
        by_cases q : e = j + 1
        · rw [if_pos (by rw [q, show j + 1 - j = 1 from by omega]; rfl), if_pos q]
        · rw [if_neg (show ¬ nI (e - j) = (1 : Int32) from nI_ne (b := 1) (by omega) (by omega) (by omega)), if_neg q]
      rw [c1, bsm, c2, f_X10_goesOn_b152, b162, b162]
      dsimp only
      rw [b173 M2 m2, m4]
      have pack : ∀ (M3 : Mem) (u v : Int32), (∀ x, x ≠ 1 → M3 x = M2 x) → (∀ k, k ≠ 4 → M3 1 k = M2 1 k) → M3 1 4 = u → ((u = 2 ∧ v = 1) ∨ (u = 4 ∧ v = 4)) → ∃ M' N' b e', some ((0 : Int32), M3) = some (0, M') ∧ some ((0 : Int32), mset (mset N2 0 16 v) 0 18 (if e = j + 1 then T j else 0)) = some (0, N') ∧ e0 ≤ b ∧ b ≤ e' ∧ e' ≤ L ∧ M' 1 2 = nI b ∧ N' 0 14 = nI b ∧ M' 1 3 = nI e' ∧ N' 0 15 = nI e' ∧ Tk T b e' M' N' ∧ (∀ x, x ≠ 1 → M' x = M x) ∧ (∀ k, k ≠ 2 → k ≠ 3 → k ≠ 4 → k ≠ 5 → M' 1 k = M 1 k) ∧ (∀ x, x ≠ 0 → N' x = N x) ∧ ∀ k, (k < 14 ∨ 18 < k) → N' 0 k = N 0 k := by
        intro M3 u v p1 p2 p3 p4
        refine ⟨M3, _, j, e, rfl, rfl, a3, c3, c4, by rw [p2 2 (by omega)]; exact m2, by rw [mset_k (by omega), mset_k (by omega)]; exact n14, by rw [p2 3 (by omega)]; exact c7, by rw [mset_k (by omega), mset_k (by omega)]; exact c8, ?_, fun x hx => by rw [p1 x hx]; exact fC x hx, fun k h2 h3 h4 h5 => by rw [p2 k h4]; exact fk k h2 h3 h4 h5, fun x hx => by rw [mset_ne hx, mset_ne hx]; exact gx x hx, fun k hk => by rw [mset_k (by omega), mset_k (by omega)]; exact gk k hk⟩
        rcases p4 with ⟨r1, r2⟩ | ⟨r1, r2⟩
        · exact Or.inr (Or.inr (Or.inl ⟨hje, by rw [p3, r1], by rw [mset_k (by omega), mset_at, r2], by rw [mset_at], c5⟩))
        · exact Or.inr (Or.inr (Or.inr (Or.inr ⟨by rw [p3, r1], by rw [mset_k (by omega), mset_at, r2]⟩)))
      by_cases q : s ≠ 0 ∧ j = e0
      · rw [if_pos ⟨q.1, by decide, q.2⟩, if_neg (fun z => (htt.mp z) q)]
        exact pack _ 4 4 (fun x hx => mset_ne hx) (fun k hk => by rw [mset_k hk]) (by rw [mset_at]) (Or.inr ⟨rfl, rfl⟩)
      · rw [if_neg (fun z => q ⟨z.1, z.2.2⟩), if_pos (htt.mpr q)]
        exact pack _ 2 1 (fun x hx => rfl) (fun k hk => rfl) m4 (Or.inl ⟨rfl, rfl⟩)
    rw [if_pos ql, if_pos (fun z => ql z.2), mset_k (show (2 : Nat) ≠ 3 by omega), a5, if_pos i9, ix_nI (by omega), mset_ne (show (2 : Nat) ≠ 1 by omega), a7 2 (by omega), t1, mset_at, digC_eq, digM_eq hT1 (by omega)]
    simp only [bsm, b2i_eq0]
    by_cases qd : digi (T j)
    · -- a number
      rw [if_neg (nn qd), if_neg (nn ⟨qL, qd⟩), f_X4_takeDigits, f_X4_takeDigits_b0]
      have hT2 : Tp T L (mset (mset M1 1 3 (nI j)) 1 5 0) (mset (mset N1 0 14 (nI j)) 0 17 0) := hT1.cg (by rw [mset_k (by omega)]) (mset_ne (by omega)) (by rw [mset_k (by omega)]) (mset_ne (by omega))
      obtain ⟨e, M2, N2, c1, c2, c3, c4, c6, c7, c8, cv, c9, c10, c11, c12⟩ := digits (T := T) (L := L) (b := j) tt (L - j) FU j _ _ (by omega) (by unfold FU; omega) (Nat.le_refl _) hT2 (by rw [mset_k (by omega), mset_at]) (by rw [mset_k (by omega), mset_k (by omega)]; exact a6) (by rw [mset_k (by omega), mset_at]) (fun _ => ⟨0, by rw [Nat.sub_self]; decide, by rw [mset_at]; rfl, by rw [mset_at]; rfl⟩)
      have hje := c6 qL qd
      have m2 : M2 1 2 = nI j := by rw [c10 2 (by omega) (by omega), mset_k (by omega), mset_k (by omega)]; exact a5
      have fC : ∀ x, x ≠ 1 → M2 x = M x := fun x hx => by rw [c9 x hx, mset_ne hx, mset_ne hx]; exact a7 x hx
      have fk : ∀ k, k ≠ 2 → k ≠ 3 → k ≠ 4 → k ≠ 5 → M2 1 k = M 1 k := fun k h2 h3 h4 h5 => by rw [c10 k h3 h5, mset_k h5, mset_k h3]; exact a8 k h2
      have n14 : N2 0 14 = nI j := by rw [c12 14 (by omega) (by omega), mset_k (by omega), mset_at]
      have gx : ∀ x, x ≠ 0 → N2 x = N x := fun x hx => by rw [c11 x hx, mset_ne hx, mset_ne hx]; exact a9 x hx
      have gk : ∀ k, (k < 14 ∨ 18 < k) → N2 0 k = N 0 k := fun k hk => by rw [c12 k (by omega) (by omega), mset_k (by omega), mset_k (by omega)]; exact a10 k (by omega)
      have pack : ∀ (M3 : Mem) (u v : Int32), (∀ x, x ≠ 1 → M3 x = M2 x) → (∀ k, k ≠ 4 → M3 1 k = M2 1 k) → M3 1 4 = u → ((u = 1 ∧ v = 2 ∧ e - j ≤ 4) ∨ (u = 4 ∧ v = 4)) → ∃ M' N' b e, some ((0 : Int32), M3) = some (0, M') ∧ some ((0 : Int32), mset N2 0 16 v) = some (0, N') ∧ e0 ≤ b ∧ b ≤ e ∧ e ≤ L ∧ M' 1 2 = nI b ∧ N' 0 14 = nI b ∧ M' 1 3 = nI e ∧ N' 0 15 = nI e ∧ Tk T b e M' N' ∧ (∀ x, x ≠ 1 → M' x = M x) ∧ (∀ k, k ≠ 2 → k ≠ 3 → k ≠ 4 → k ≠ 5 → M' 1 k = M 1 k) ∧ (∀ x, x ≠ 0 → N' x = N x) ∧ ∀ k, (k < 14 ∨ 18 < k) → N' 0 k = N 0 k := by
        intro M3 u v p1 p2 p3 p4
        refine ⟨M3, _, j, e, rfl, rfl, a3, c3, c4, by rw [p2 2 (by omega)]; exact m2, by rw [mset_k (by omega)]; exact n14, by rw [p2 3 (by omega)]; exact c7, by rw [mset_k (by omega)]; exact c8, ?_, fun x hx => by rw [p1 x hx]; exact fC x hx, fun k h2 h3 h4 h5 => by rw [p2 k h4]; exact fk k h2 h3 h4 h5, fun x hx => by rw [mset_ne hx]; exact gx x hx, fun k hk => by rw [mset_k (by omega)]; exact gk k hk⟩
        rcases p4 with ⟨r1, r2, r3⟩ | ⟨r1, r2⟩
        · obtain ⟨w, w1, w2, w3⟩ := cv r3
          have hpow : 10 ^ (e - j) ≤ 10 ^ 4 := Nat.pow_le_pow_right (by omega) r3
          refine Or.inr (Or.inl ⟨hje, by rw [p3, r1], by rw [mset_at, r2], by rw [p2 5 (by omega), mset_k (by omega), w2, w3], ?_⟩)
          rw [mset_k (by omega), w3, nI_toInt (by omega)]
          omega
        · exact Or.inr (Or.inr (Or.inr (Or.inr ⟨by rw [p3, r1], by rw [mset_at, r2]⟩)))
      have s4 : ∀ M2' : Mem, M2' = M2 → f_X4_takeDigits_b68 M2' = some (0, mset M2 1 4 (if e - j ≤ 4 then 1 else 4)) := by
        rintro M2' rfl
        rw [f_X4_takeDigits_b68, c7, m2, show nI e - nI j = nI (e - j) from pk_sub (by omega), f_X4_takeDigits_b87, f_X4_takeDigits_b87]
        by_cases q : e - j ≤ 4
        · rw [if_pos (show nI (e - j) ≤ (4 : Int32) from nI_le (b := 4) q (by omega)), if_pos q]
        · rw [if_neg (show ¬ nI (e - j) ≤ (4 : Int32) from nI_ge (a := 4) (by omega) (by omega)), if_neg q]
      rw [c1, s4 M2 rfl, bsm, c2, f_X10_goesOn_b282, f_X10_goesOn_b300, c8, n14, show nI e - nI j = nI (e - j) from pk_sub (by omega), f_X10_goesOn_b305, f_X10_goesOn_b305]
      dsimp only
      rw [b173 _ (by rw [mset_k (by omega)]; exact m2), mset_at]
      have nz : (if e - j ≤ 4 then (1 : Int32) else 4) ≠ 0 := by split <;> decide
      by_cases q : s ≠ 0 ∧ j = e0
      · rw [if_pos ⟨q.1, nz, q.2⟩, if_neg (fun z => (htt.mp z) q)]
        exact pack _ 4 4 (fun x hx => by rw [mset_ne hx, mset_ne hx]) (fun k hk => by rw [mset_k hk, mset_k hk]) (by rw [mset_at]) (Or.inr ⟨rfl, rfl⟩)
      · rw [if_neg (fun z => q ⟨z.1, z.2.2⟩), if_pos (htt.mpr q)]
        by_cases q4 : e - j ≤ 4
        · rw [if_pos q4, if_pos (show nI (e - j) ≤ (4 : Int32) from nI_le (b := 4) q4 (by omega))]
          exact pack _ 1 2 (fun x hx => mset_ne hx) (fun k hk => by rw [mset_k hk]) (by rw [mset_at]) (Or.inl ⟨rfl, rfl, q4⟩)
        · rw [if_neg q4, if_neg (show ¬ nI (e - j) ≤ (4 : Int32) from nI_ge (a := 4) (by omega) (by omega))]
          exact pack _ 4 4 (fun x hx => mset_ne hx) (fun k hk => by rw [mset_k hk]) (by rw [mset_at]) (Or.inr ⟨rfl, rfl⟩)
    · -- a sign
      have m2 : mset (mset M1 1 3 (nI j)) 1 4 3 1 2 = nI j := by rw [mset_k (by omega), mset_k (by omega)]; exact a5
      have n14 : mset (mset N1 0 14 (nI j)) 0 16 3 0 14 = nI j := by rw [mset_k (by omega), mset_at]
      rw [if_pos qd, if_pos (fun z => qd z.2), m2, if_pos i9, n14, if_pos i9, ix_nI (by omega), mset_k (show (2 : Nat) ≠ 5 by omega), m2, nI_1, mset_ne (show (2 : Nat) ≠ 1 by omega), mset_ne (show (2 : Nat) ≠ 1 by omega), a7 2 (by omega), t1, mset_ne (show (12 : Nat) ≠ 0 by omega), mset_ne (show (12 : Nat) ≠ 0 by omega), a9 12 (by omega), t2, f_X10_goesOn_bc329_1, mset_k (show (15 : Nat) ≠ 18 by omega), mset_k (show (15 : Nat) ≠ 16 by omega), mset_k (show (15 : Nat) ≠ 14 by omega), a6, nI_1]
      refine ⟨_, _, j, j + 1, rfl, rfl, a3, by omega, by omega, by rw [mset_k (by omega), mset_k (by omega)]; exact m2, by rw [mset_k (by omega), mset_k (by omega)]; exact n14, by rw [mset_at], by rw [mset_at], Or.inr (Or.inr (Or.inr (Or.inl ⟨by omega, by rw [mset_k (by omega), mset_k (by omega), mset_at], by rw [mset_k (by omega), mset_k (by omega), mset_at], by rw [mset_k (by omega), mset_at], by rw [mset_k (by omega), mset_at]⟩))), fun x hx => by rw [mset_ne hx, mset_ne hx, mset_ne hx, mset_ne hx]; exact a7 x hx, fun k h2 h3 h4 h5 => by rw [mset_k h3, mset_k h5, mset_k h4, mset_k h3]; exact a8 k h2, fun x hx => by rw [mset_ne hx, mset_ne hx, mset_ne hx, mset_ne hx]; exact a9 x hx, fun k hk => by rw [mset_k (by omega), mset_k (by omega), mset_k (by omega), mset_k (by omega)]; exact a10 k (by omega)⟩
  rw [f_X4_step, f_X4_step_b0, f_X4_step_b16, f_X4_step_b21, f_X4_step_b21, f_X10_goesOn, f_X10_goesOn_b0, f_X10_goesOn_b23, f_X10_goesOn_b27, f_X10_goesOn_b28, f_X10_goesOn_b28, m3, n15]
  rcases hB with ⟨h0, h | h⟩ | h
  · rw [h.1, h.2, if_pos rfl, if_neg (show ¬ nI e0 ≤ 0 from nI_ge (a := 0) h0 (by omega)), if_pos rfl]
    exact run 1 1 Iff.rfl
  · rw [h.1, h.2, if_neg (by decide), if_pos rfl, if_neg (show ¬ nI e0 ≤ 0 from nI_ge (a := 0) h0 (by omega)), if_neg (by decide), if_pos rfl]
    exact run 1 1 Iff.rfl
  · rw [if_neg h.2.1, if_neg h.1, if_neg h.2.2.1, if_neg h.2.2.2]
    have := run 0 0 Iff.rfl
    split <;> exact this
