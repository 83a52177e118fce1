/-! CHANGES, FROM -/
def edN (B : Row) (a : Int32) (P : Nat → Nat) : Nat → Nat
  | 0 => P 0 + 1
  | j + 1 => min (P j + (if a = B j then 0 else 1)) (min (P (j + 1)) (edN B a P j) + 1)
def ed (A B : Row) : Nat → Nat → Nat
  | 0 => fun j => j
  | i + 1 => edN B (A i) (ed A B i)
theorem ed_S (A B : Row) (i j : Nat) : ed A B (i + 1) (j + 1) = min (ed A B i j + (if A i = B j then 0 else 1)) (min (ed A B i (j + 1)) (ed A B (i + 1) j) + 1) := rfl
theorem ed_0 (A B : Row) : ∀ i, ed A B i 0 = i := by
  intro i
  induction i with
  | zero => rfl
  | succ i ih =>
    show ed A B i 0 + 1 = i + 1
    rw [ih]
theorem ed_le (A B : Row) : ∀ i j, ed A B i j ≤ i + j := by
  intro i
  induction i with
  | zero => intro j; show j ≤ 0 + j; omega
  | succ i ih =>
    intro j
    cases j with
    | zero => rw [ed_0]; omega
    | succ j =>
      rw [ed_S]
      have := ih (j + 1)
      omega
theorem imin_nI {a b : Nat} (ha : a < 2 ^ 31) (hb : b < 2 ^ 31) : imin (nI a) (nI b) = nI (min a b) := by
  unfold imin
  by_cases h : b < a
  · rw [if_pos (nI_lt h ha), Nat.min_eq_right (by omega)]
  · rw [if_neg (nI_nlt (by omega) hb), Nat.min_eq_left (by omega)]
theorem least_eq {a b : Nat} (ha : a < 2 ^ 31) (hb : b < 2 ^ 31) (N : Mem) : f_X10_least (nI a) (nI b) N = some (nI (min a b), N) := by
  unfold f_X10_least f_X10_least_b0
  by_cases h : b ≤ a
  · rw [if_pos (nI_le h ha), Nat.min_eq_right (by omega)]
  · rw [if_neg (nI_ge (by omega) hb), Nat.min_eq_left (by omega)]
theorem nI_sub1 {a : Nat} (h : 1 ≤ a) : nI a - 1 = nI (a - 1) := by rw [show (1 : Int32) = nI 1 from rfl]; exact pk_sub h
theorem cbt_eq {M : Mem} {p q n1 n2 : Nat} (hp : p < 4) (hq : q < 4) {A B : Row} (e1 : M (112 + 2 * p) 1 = nI n1) (e2 : M (112 + 2 * q) 1 = nI n2) (h1 : n1 ≤ 24) (h2 : n2 ≤ 24) (eA : ∀ j, j < 24 → M (113 + 2 * p) j = A j) (eB : ∀ j, j < 24 → M (113 + 2 * q) j = B j) : ∃ M', f_X9_changesBetween (112 + 2 * p) (112 + 2 * q) M = some (nI (ed A B n1 n2), M') ∧ ∀ x, x ≠ 16 → M' x = M x := by
  obtain ⟨-, rp⟩ := rf_sh p hp
  obtain ⟨-, rq⟩ := rf_sh q hq
  -- the inner loop
  have k3 : ∀ (K : Nat → Nat → Int32 → Mem → Option (Int32 × Mem)) (r fuel i j : Nat) (M1 : Mem), j + r = n2 → r < fuel → i < n1 → (∀ j', j' ≤ j → M1 16 j' = nI (ed A B (i + 1) j')) → (∀ j', j < j' → j' ≤ n2 → M1 16 j' = nI (ed A B i j')) → (∀ x, x ≠ 16 → M1 x = M x) → ∃ M', f_X9_changesBetween_b51 K fuel (112 + 2 * p) (112 + 2 * q) (nI (i + 1)) (nI (ed A B i j)) (nI (j + 1)) M1 = K (112 + 2 * p) (112 + 2 * q) (nI (i + 2)) M' ∧ (∀ j', j' ≤ n2 → M' 16 j' = nI (ed A B (i + 1) j')) ∧ ∀ x, x ≠ 16 → M' x = M x := by
    intro K r
    induction r with
    | zero =>
      intro fuel i j M1 hj hf hi hA hB hF
      obtain ⟨f, rfl⟩ : ∃ f, fuel = f + 1 := ⟨fuel - 1, by omega⟩
      have : j = n2 := by omega
      subst this
      rw [f_X9_changesBetween_b51, hF _ (by omega), e2, if_pos (nI_lt (by omega) (by omega)), f_X9_changesBetween_b138, nI_1]
      exact ⟨M1, rfl, hA, hF⟩
    | succ r ih =>
      intro fuel i j M1 hj hf hi hA hB hF
      obtain ⟨f, rfl⟩ : ∃ f, fuel = f + 1 := ⟨fuel - 1, by omega⟩
      have l1 := ed_le A B i j
      have l2 := ed_le A B i (j + 1)
      have l3 := ed_le A B (i + 1) j
      have b98 : ∀ c : Nat, c = (if A i = B j then 0 else 1) → ∃ M', f_X9_changesBetween_b98 K (f_X9_changesBetween_b51 K f) (112 + 2 * p) (112 + 2 * q) (nI (i + 1)) (nI (j + 1)) (nI (ed A B i (j + 1))) (nI (ed A B i j + c)) M1 = K (112 + 2 * p) (112 + 2 * q) (nI (i + 2)) M' ∧ (∀ j', j' ≤ n2 → M' 16 j' = nI (ed A B (i + 1) j')) ∧ ∀ x, x ≠ 16 → M' x = M x := by
        intro c hc
        have hc1 : c ≤ 1 := by rw [hc]; split <;> omega
        rw [f_X9_changesBetween_b98, nI_sub1 (by omega), show j + 1 - 1 = j from by omega, if_pos (ixb_t (show j < 25 by omega) (by omega)), if_pos (ixb_t (show j + 1 < 25 by omega) (by omega)), ix_nI (by omega), ix_nI (by omega), hA j (by omega), imin_nI (by omega) (by omega), nI_1, nI_1, imin_nI (by omega) (by omega)]
        rw [hc, ← ed_S]
        refine ih f i (j + 1) _ (by omega) (by omega) hi (fun j' hj' => ?_) (fun j' h1 h2 => ?_) (fun x hx => ?_)
        · by_cases z : j' = j + 1
          · subst z; rw [mset_at]
          · rw [mset_k z]; exact hA j' (by omega)
        · rw [mset_k (by omega)]; exact hB j' (by omega) h2
        · rw [mset_ne hx]; exact hF x hx
      rw [f_X9_changesBetween_b51, hF (112 + 2 * q) (by omega), e2, if_neg (nI_nlt (by omega) (by omega)), if_pos (ixb_t (show j + 1 < 25 by omega) (by omega)), nI_sub1 (show 1 ≤ i + 1 by omega), nI_sub1 (show 1 ≤ j + 1 by omega), show i + 1 - 1 = i from by omega, show j + 1 - 1 = j from by omega, if_pos (ixb_t (show i < 24 by omega) (by omega)), if_pos (ixb_t (show j < 24 by omega) (by omega)), ix_nI (show j + 1 < 2 ^ 31 by omega), ix_nI (show i < 2 ^ 31 by omega), ix_nI (show j < 2 ^ 31 by omega), rp, rq, hF (113 + 2 * p) (by omega), hF (113 + 2 * q) (by omega), eA i (by omega), eB j (by omega), hB (j + 1) (by omega) (by omega)]
      by_cases z : A i = B j
      · rw [if_pos z]
        exact b98 0 (by rw [if_pos z])
      · rw [if_neg z, nI_1]
        exact b98 1 (by rw [if_neg z])
  -- the outer loop
  have k2 : ∀ (r fuel i : Nat) (M1 : Mem), i + r = n1 → r < fuel → (∀ j', j' ≤ n2 → M1 16 j' = nI (ed A B i j')) → (∀ x, x ≠ 16 → M1 x = M x) → ∃ M', f_X9_changesBetween_b25 fuel (112 + 2 * p) (112 + 2 * q) (nI (i + 1)) M1 = some (nI (ed A B n1 n2), M') ∧ ∀ x, x ≠ 16 → M' x = M x := by
    intro r
    induction r with
    | zero =>
      intro fuel i M1 hi hf hA hF
      obtain ⟨f, rfl⟩ : ∃ f, fuel = f + 1 := ⟨fuel - 1, by omega⟩
      have : i = n1 := by omega
      subst this
      rw [f_X9_changesBetween_b25, hF _ (by omega), e1, if_pos (nI_lt (by omega) (by omega)), f_X9_changesBetween_b144, hF _ (by omega), e2, if_pos (ixb_t (by omega) (by omega)), ix_nI (by omega), hA n2 (by omega)]
      exact ⟨M1, rfl, hF⟩
    | succ r ih =>
      intro fuel i M1 hi hf hA hF
      obtain ⟨f, rfl⟩ : ∃ f, fuel = f + 1 := ⟨fuel - 1, by omega⟩
      obtain ⟨M', g1, g2, g3⟩ := k3 (f_X9_changesBetween_b25 f) n2 FU i 0 (mset M1 16 0 (nI (i + 1))) (by omega) (by unfold FU; omega) (by omega) (fun j' hj' => by
        have : j' = 0 := by omega
        subst this
        rw [mset_at, ed_0]) (fun j' p1 p2 => by rw [mset_k (by omega)]; exact hA j' p2) (fun x hx => by rw [mset_ne hx]; exact hF x hx)
      have g1 : f_X9_changesBetween_b51 (f_X9_changesBetween_b25 f) FU (112 + 2 * p) (112 + 2 * q) (nI (i + 1)) (nI (ed A B i 0)) 1 (mset M1 16 0 (nI (i + 1))) = _ := g1
      rw [f_X9_changesBetween_b25, hF _ (by omega), e1, if_neg (nI_nlt (by omega) (by omega)), hA 0 (by omega), g1]
      exact ih f (i + 1) M' (by omega) (by omega) g2 g3
  have k1 : ∀ (r fuel i : Nat) (M1 : Mem), i + r = n2 + 1 → r < fuel → (∀ j', j' < i → M1 16 j' = nI j') → (∀ x, x ≠ 16 → M1 x = M x) → ∃ M', f_X9_changesBetween_b2 fuel (112 + 2 * p) (112 + 2 * q) (nI i) M1 = some (nI (ed A B n1 n2), M') ∧ ∀ x, x ≠ 16 → M' x = M x := by
    intro r
    induction r with
    | zero =>
      intro fuel i M1 hi hf hA hF
      obtain ⟨f, rfl⟩ : ∃ f, fuel = f + 1 := ⟨fuel - 1, by omega⟩
      have : i = n2 + 1 := by omega
      subst this
      rw [f_X9_changesBetween_b2, hF _ (by omega), e2, if_pos (nI_lt (by omega) (by omega)), f_X9_changesBetween_b23]
      exact k2 n1 FU 0 M1 (by omega) (by unfold FU; omega) (fun j' hj' => hA j' (by omega)) hF
    | succ r ih =>
      intro fuel i M1 hi hf hA hF
      obtain ⟨f, rfl⟩ : ∃ f, fuel = f + 1 := ⟨fuel - 1, by omega⟩
      rw [f_X9_changesBetween_b2, hF _ (by omega), e2, if_neg (nI_nlt (by omega) (by omega)), if_pos (ixb_t (by omega) (by omega)), ix_nI (by omega), nI_1]
      refine ih f (i + 1) _ (by omega) (by omega) (fun j' hj' => ?_) (fun x hx => by rw [mset_ne hx]; exact hF x hx)
      by_cases z : j' = i
      · subst z; rw [mset_at]
      · rw [mset_k z]; exact hA j' (by omega)
  exact k1 (n2 + 1) FU 0 M (by omega) (by unfold FU; omega) (fun j hj => by omega) (fun _ _ => rfl)
theorem i25 {k j : Nat} : (25 : Int32) * nI k + nI j = nI (25 * k + j) := by rw [i_lit, nI_mul, nI_add]
theorem chd_eq {N : Mem} {p q n1 n2 : Nat} (hp : p < 4) (hq : q < 4) (e1 : N 5 p = nI n1) (e2 : N 5 q = nI n2) (h1 : n1 ≤ 24) (h2 : n2 ≤ 24) : ∃ N', f_X10_changed (nI p) (nI q) N = some (nI (ed (fun j => N 6 (24 * p + j)) (fun j => N 6 (24 * q + j)) n1 n2), N') ∧ ∀ x, x ≠ 21 → N' x = N x := by
  generalize hA0 : (fun j => N 6 (24 * p + j)) = A
  have eA : ∀ j, N 6 (24 * p + j) = A j := fun j => by rw [← hA0]
  generalize hB0 : (fun j => N 6 (24 * q + j)) = B
  have eB : ∀ j, N 6 (24 * q + j) = B j := fun j => by rw [← hB0]
  have ip := ixb_t hp (show 4 < 2 ^ 31 by omega)
  have iq := ixb_t hq (show 4 < 2 ^ 31 by omega)
  have k2 : ∀ (K : Int32 → Int32 → Int32 → Mem → Option (Int32 × Mem)) (r fuel a b : Nat) (N1 : Mem), b + r = n2 + 1 → r < fuel → a ≤ n1 → (∀ a' b', a' < a → b' ≤ n2 → N1 21 (25 * a' + b') = nI (ed A B a' b')) → (∀ b', b' < b → N1 21 (25 * a + b') = nI (ed A B a b')) → (∀ x, x ≠ 21 → N1 x = N x) → ∃ N', f_X10_changed_b15 K fuel (nI p) (nI q) (nI a) (nI b) N1 = K (nI p) (nI q) (nI (a + 1)) N' ∧ (∀ a' b', a' < a + 1 → b' ≤ n2 → N' 21 (25 * a' + b') = nI (ed A B a' b')) ∧ ∀ x, x ≠ 21 → N' x = N x := by
    intro K r
    induction r with
    | zero =>
      intro fuel a b N1 hb hf ha hA hB hF
      obtain ⟨f, rfl⟩ : ∃ f, fuel = f + 1 := ⟨fuel - 1, by omega⟩
      have : b = n2 + 1 := by omega
      subst this
      rw [f_X10_changed_b15, if_pos iq, ix_nI (by omega), hF _ (by omega), e2, if_pos (nI_lt (by omega) (by omega)), f_X10_changed_b167, nI_1]
      refine ⟨N1, rfl, fun a' b' p1 p2 => ?_, hF⟩
      by_cases z : a' = a
      · subst z; exact hB b' (by omega)
      · exact hA a' b' (by omega) p2
    | succ r ih =>
      intro fuel a b N1 hb hf ha hA hB hF
      obtain ⟨f, rfl⟩ : ∃ f, fuel = f + 1 := ⟨fuel - 1, by omega⟩
      have b147 : ∃ N', f_X10_changed_b147 K (f_X10_changed_b15 K f) (nI p) (nI q) (nI a) (nI b) (nI (ed A B a b)) N1 = K (nI p) (nI q) (nI (a + 1)) N' ∧ (∀ a' b', a' < a + 1 → b' ≤ n2 → N' 21 (25 * a' + b') = nI (ed A B a' b')) ∧ ∀ x, x ≠ 21 → N' x = N x := by
        rw [f_X10_changed_b147, i25, if_pos (ixb_t (show 25 * a + b < 625 by omega) (by omega)), ix_nI (by omega), nI_1]
        refine ih f a (b + 1) _ (by omega) (by omega) ha (fun a' b' p1 p2 => ?_) (fun b' p1 => ?_) (fun x hx => by rw [mset_ne hx]; exact hF x hx)
        · rw [mset_k (by omega)]; exact hA a' b' p1 p2
        · by_cases z : b' = b
          · subst z; rw [mset_at]
          · rw [mset_k (by omega)]; exact hB b' (by omega)
      rw [f_X10_changed_b15, if_pos iq, ix_nI (by omega), hF 5 (by omega), e2, if_neg (nI_nlt (by omega) (by omega))]
      by_cases za : a = 0
      · subst za
        rw [if_pos (show nI 0 ≤ 0 from nI_le (b := 0) (by omega) (by omega)), nI_add, Nat.zero_add]
        exact b147
      rw [if_neg (show ¬ nI a ≤ 0 from nI_ge (a := 0) (by omega) (by omega))]
      by_cases zb : b = 0
      · subst zb
        rw [if_pos (show nI 0 ≤ 0 from nI_le (b := 0) (by omega) (by omega)), nI_add, Nat.add_zero]
        rw [ed_0] at b147
        exact b147
      rw [if_neg (show ¬ nI b ≤ 0 from nI_ge (a := 0) (by omega) (by omega))]
      obtain ⟨a', rfl⟩ : ∃ a', a = a' + 1 := ⟨a - 1, by omega⟩
      obtain ⟨b', rfl⟩ : ∃ b', b = b' + 1 := ⟨b - 1, by omega⟩
      have l1 := ed_le A B a' b'
      have l2 := ed_le A B a' (b' + 1)
      have l3 := ed_le A B (a' + 1) b'
      rw [i24, i24, nI_sub1 (by omega), nI_sub1 (by omega), show 24 * p + (a' + 1) - 1 = 24 * p + a' from by omega, show 24 * q + (b' + 1) - 1 = 24 * q + b' from by omega, if_pos (ixb_t (show 24 * p + a' < 96 by omega) (by omega)), if_pos (ixb_t (show 24 * q + b' < 96 by omega) (by omega)), ix_nI (show 24 * p + a' < 2 ^ 31 by omega), ix_nI (show 24 * q + b' < 2 ^ 31 by omega), hF 6 (by omega), eA, eB]
      have ex1 : (25 : Int32) * (nI (a' + 1) - 1) + nI (b' + 1) = nI (25 * a' + (b' + 1)) := by rw [nI_sub1 (by omega), show a' + 1 - 1 = a' from by omega, i25]
      have b104 : ∀ c : Nat, c = (if A a' = B b' then 0 else 1) → ∃ N', f_X10_changed_b104 K (f_X10_changed_b15 K f) (nI p) (nI q) (nI (a' + 1)) (nI (b' + 1)) (nI c) (nI (ed A B a' b')) N1 = K (nI p) (nI q) (nI (a' + 1 + 1)) N' ∧ (∀ a'' b'', a'' < a' + 1 + 1 → b'' ≤ n2 → N' 21 (25 * a'' + b'') = nI (ed A B a'' b'')) ∧ ∀ x, x ≠ 21 → N' x = N x := by
        intro c hc
        have hc1 : c ≤ 1 := by rw [hc]; split <;> omega
        rw [f_X10_changed_b104, ex1, i25, nI_sub1 (by omega), show 25 * (a' + 1) + (b' + 1) - 1 = 25 * (a' + 1) + b' from by omega, if_pos (ixb_t (show 25 * a' + (b' + 1) < 625 by omega) (by omega)), if_pos (ixb_t (show 25 * (a' + 1) + b' < 625 by omega) (by omega)), ix_nI (show 25 * a' + (b' + 1) < 2 ^ 31 by omega), ix_nI (show 25 * (a' + 1) + b' < 2 ^ 31 by omega), hA a' (b' + 1) (by omega) (by omega), hB b' (by omega), least_eq (by omega) (by omega)]
        simp only [Option.bind_some]
        rw [nI_add, show (1 : Int32) = nI 1 from rfl, nI_add, Nat.add_comm 1, least_eq (by omega) (by omega)]
        simp only [Option.bind_some]
        rw [hc, ← ed_S]
        exact b147
      have b76 : ∀ z : Int32, (z = 0 ↔ ¬ A a' = B b') → ∃ N', f_X10_changed_b76 K (f_X10_changed_b15 K f) (nI p) (nI q) (nI (a' + 1)) (nI (b' + 1)) z N1 = K (nI p) (nI q) (nI (a' + 1 + 1)) N' ∧ (∀ a'' b'', a'' < a' + 1 + 1 → b'' ≤ n2 → N' 21 (25 * a'' + b'') = nI (ed A B a'' b'')) ∧ ∀ x, x ≠ 21 → N' x = N x := by
        intro z hz
        rw [f_X10_changed_b76, ex1, nI_sub1 (by omega), show 25 * a' + (b' + 1) - 1 = 25 * a' + b' from by omega, if_pos (ixb_t (show 25 * a' + b' < 625 by omega) (by omega)), ix_nI (by omega), hA a' b' (by omega) (by omega)]
        by_cases zz : z = 0
        · rw [if_pos zz]
          exact b104 1 (by rw [if_neg (hz.mp zz)])
        · rw [if_neg zz]
          exact b104 0 (by rw [if_pos (Classical.not_not.mp (fun y => zz (hz.mpr y)))])
      by_cases z : A a' = B b'
      · rw [if_pos z]
        exact b76 1 ⟨fun y => absurd y (by decide), fun y => absurd z y⟩
      · rw [if_neg z]
        exact b76 0 ⟨fun _ => z, fun _ => rfl⟩
  have k1 : ∀ (r fuel a : Nat) (N1 : Mem), a + r = n1 + 1 → r < fuel → (∀ a' b', a' < a → b' ≤ n2 → N1 21 (25 * a' + b') = nI (ed A B a' b')) → (∀ x, x ≠ 21 → N1 x = N x) → ∃ N', f_X10_changed_b2 fuel (nI p) (nI q) (nI a) N1 = some (nI (ed A B n1 n2), N') ∧ ∀ x, x ≠ 21 → N' x = N x := by
    intro r
    induction r with
    | zero =>
      intro fuel a N1 ha hf hA hF
      obtain ⟨f, rfl⟩ : ∃ f, fuel = f + 1 := ⟨fuel - 1, by omega⟩
      have : a = n1 + 1 := by omega
      subst this
      rw [f_X10_changed_b2, if_pos ip, ix_nI (by omega), hF 5 (by omega), e1, if_pos (nI_lt (by omega) (by omega)), f_X10_changed_b173, if_pos ip, if_pos iq, ix_nI (by omega), ix_nI (by omega), hF 5 (by omega), e1, e2, i25, if_pos (ixb_t (show 25 * n1 + n2 < 625 by omega) (by omega)), ix_nI (by omega), hA n1 n2 (by omega) (by omega)]
      exact ⟨N1, rfl, hF⟩
    | succ r ih =>
      intro fuel a N1 ha hf hA hF
      obtain ⟨f, rfl⟩ : ∃ f, fuel = f + 1 := ⟨fuel - 1, by omega⟩
      obtain ⟨N', g1, g2, g3⟩ := k2 (f_X10_changed_b2 f) (n2 + 1) FU a 0 N1 (by omega) (by unfold FU; omega) (by omega) hA (fun b' hb' => by omega) hF
      have g1 : f_X10_changed_b15 (f_X10_changed_b2 f) FU (nI p) (nI q) (nI a) 0 N1 = _ := g1
      rw [f_X10_changed_b2, if_pos ip, ix_nI (by omega), hF 5 (by omega), e1, if_neg (nI_nlt (by omega) (by omega)), g1]
      exact ih f (a + 1) N' (by omega) (by omega) g2 g3
  exact k1 (n1 + 1) FU 0 N (by omega) (by unfold FU; omega) (fun a' b' z => by omega) (fun _ _ => rfl)
theorem q_changes {M N : Mem} (h : Rel M N) (x1 x2 : Int32) : Eqv (f_X9_changes x1 x2 M) (f_X10_changes x1 x2 N) := by
  unfold f_X9_changes f_X9_changes_b0 f_X10_changes f_X10_changes_b0
  rw [isBelowN x1 4 4 (by decide), isSheet_eq]
  simp only [Option.bind_some, b2i_eq0]
  by_cases hc : 0 ≤ x1.toInt ∧ x1.toInt < 4
  rotate_left
  · rw [if_pos hc, if_pos (show ¬ (0 ≤ x1.toInt ∧ x1.toInt < 4) by omega)]
    exact ⟨_, M, N, rfl, rfl, h⟩
  rw [if_neg (nn hc), if_neg (nn (show 0 ≤ x1.toInt ∧ x1.toInt < 4 by omega))]
  rw [isBelowN x2 4 4 (by decide), isSheet_eq]
  simp only [Option.bind_some, b2i_eq0]
  by_cases hd : 0 ≤ x2.toInt ∧ x2.toInt < 4
  rotate_left
  · rw [if_pos hd, if_pos (show ¬ (0 ≤ x2.toInt ∧ x2.toInt < 4) by omega)]
    exact ⟨_, M, N, rfl, rfl, h⟩
  rw [if_neg (nn hd), if_neg (nn (show 0 ≤ x2.toInt ∧ x2.toInt < 4 by omega))]
  obtain ⟨p, hp, rfl⟩ := i_of (n := 4) hc.1 hc.2
  obtain ⟨k, hk, rfl⟩ := i_of (n := 4) hd.1 hd.2
  obtain ⟨r1, -⟩ := rf_sh p hp
  obtain ⟨r2, -⟩ := rf_sh k hk
  obtain ⟨s0, s1, sb, ⟨n, hn, en⟩, sr⟩ := h.2.2.2.1 p hp
  obtain ⟨t0, t1, tb, ⟨m, hm, em⟩, tr⟩ := h.2.2.2.1 k hk
  simp only [ixb_t hp (show 4 < 2 ^ 31 by omega), ixb_t hk (show 4 < 2 ^ 31 by omega), if_true]
  rw [ix_nI (show p < 2 ^ 31 by omega), ix_nI (show k < 2 ^ 31 by omega), r1, r2, isMissing_eq s0 sb]
  simp only [Option.bind_some, b2i_eq0]
  by_cases q : 0 ≤ N 4 p
  rotate_left
  · rw [if_neg (nn q), if_pos (by rw [i_lt, i_0]; rw [i_le, i_0] at q; omega), f_X9_changes_b49, f_X10_changes_b35]
    exact ⟨_, M, N, rfl, rfl, h⟩
  rw [if_pos (nn q), if_neg (show ¬ N 4 p < 0 by rw [i_lt, i_0]; rw [i_le, i_0] at q; omega), isMissing_eq t0 tb]
  simp only [Option.bind_some, b2i_eq0]
  by_cases q' : 0 ≤ N 4 k
  rotate_left
  · rw [if_neg (nn q'), if_neg q', f_X9_changes_b49, f_X10_changes_b35]
    exact ⟨_, M, N, rfl, rfl, h⟩
  rw [if_pos (nn q'), if_pos q', s0, t0]
  by_cases z : N 4 p = N 4 k
  · obtain ⟨M', e1, a1⟩ := cbt_eq (A := fun j => N 6 (24 * p + j)) (B := fun j => N 6 (24 * k + j)) hp hk (s1.trans en) (t1.trans em) hn hm sr tr
    obtain ⟨N', e2, b1⟩ := chd_eq hp hk en em hn hm
    rw [if_pos z, if_pos z, e1, e2]
    simp only [Option.bind_some]
    exact ⟨_, M', N', rfl, rfl, h.scr (fun x hx => a1 x (by omega)) ⟨fun x hx => b1 x (by omega), by rw [b1 0 (by omega)], by rw [b1 0 (by omega)], by rw [b1 0 (by omega)]⟩⟩
  · rw [if_neg z, if_neg z]
    exact ⟨_, M, N, rfl, rfl, h⟩
theorem q_from {M N : Mem} (h : Rel M N) (x1 : Int32) : Eqv (f_X9_from x1 M) (f_X10_from x1 N) := by
  unfold f_X9_from f_X9_from_b0 f_X10_from f_X10_from_b0
  rw [isBelowN x1 4 4 (by decide), isSheet_eq]
  simp only [Option.bind_some, b2i_eq0]
  by_cases hc : 0 ≤ x1.toInt ∧ x1.toInt < 4
  rotate_left
  · rw [if_pos hc, if_pos (show ¬ (0 ≤ x1.toInt ∧ x1.toInt < 4) by omega)]
    exact ⟨_, M, N, rfl, rfl, h⟩
  rw [if_neg (nn hc), if_neg (nn (show 0 ≤ x1.toInt ∧ x1.toInt < 4 by omega))]
  obtain ⟨p, hp, rfl⟩ := i_of (n := 4) hc.1 hc.2
  obtain ⟨r1, -⟩ := rf_sh p hp
  obtain ⟨s0, s1, sb, -⟩ := h.2.2.2.1 p hp
  have ip := ixb_t hp (show 4 < 2 ^ 31 by omega)
  simp only [ip, if_true]
  rw [ix_nI (show p < 2 ^ 31 by omega), r1, isMissing_eq s0 sb]
  simp only [Option.bind_some, b2i_eq0]
  by_cases q : 0 ≤ N 4 p
  rotate_left
  · rw [if_neg (nn q), if_neg q]
    exact ⟨_, M, N, rfl, rfl, h⟩
  rw [if_pos (nn q), if_pos q]
  have key : ∀ (r fuel i : Nat) (x2 x3 : Int32) (M1 N1 : Mem), i + r = 4 → r < fuel → (-1 ≤ x2.toInt ∧ x2.toInt < 4) → Rel M1 N1 → Eqv (f_X9_from_b38 fuel (nI p) (112 + 2 * p) (uc x2) x3 (nI i) M1) (f_X10_from_b30 fuel (nI p) x2 x3 (nI i) N1) := by
    intro r
    induction r with
    | zero =>
      intro fuel i x2 x3 M1 N1 hi hf hx h
      obtain ⟨f, rfl⟩ : ∃ f, fuel = f + 1 := ⟨fuel - 1, by omega⟩
      have : i = 4 := by omega
      subst this
      rw [f_X9_from_b38, f_X10_from_b30, if_pos (show (4 : Int32) ≤ nI 4 by decide), if_pos (show (4 : Int32) ≤ nI 4 by decide), f_X10_from_b89, orNone_eq]
      exact ⟨_, M1, N1, rfl, rfl, h⟩
    | succ r ih =>
      intro fuel i x2 x3 M1 N1 hi hf hx h
      obtain ⟨f, rfl⟩ : ∃ f, fuel = f + 1 := ⟨fuel - 1, by omega⟩
      have h4 : ¬ (4 : Int32) ≤ nI i := nI_ge (a := i) (b := 4) (by omega) (by omega)
      have hi4 : i < 4 := by omega
      have ii := ixb_t hi4 (show 4 < 2 ^ 31 by omega)
      obtain ⟨ri, -⟩ := rf_sh i hi4
      obtain ⟨s0, s1, sb, ⟨n, hn, en⟩, sr⟩ := h.2.2.2.1 p hp
      obtain ⟨t0, t1, tb, ⟨m, hm, em⟩, tr⟩ := h.2.2.2.1 i hi4
      rw [f_X9_from_b38, f_X10_from_b30, if_neg h4, if_neg h4]
      by_cases z : i = p
      · rw [if_pos (by rw [z]), if_pos (by rw [z]), f_X9_from_b101, f_X10_from_b83, nI_1]
        exact ih f (i + 1) x2 x3 M1 N1 (by omega) (by omega) hx h
      rw [if_neg (nI_ne (by omega) (by omega) z), if_neg (nI_ne (by omega) (by omega) z)]
      simp only [ii, ip, if_true]
      rw [ix_nI (show i < 2 ^ 31 by omega), ix_nI (show p < 2 ^ 31 by omega), ri, s0, t0]
      by_cases z2 : N1 4 i = N1 4 p
      rotate_left
      · rw [if_neg z2, if_neg z2, f_X9_from_b101, f_X10_from_b83, nI_1]
        exact ih f (i + 1) x2 x3 M1 N1 (by omega) (by omega) hx h
      obtain ⟨M', e1, a1⟩ := cbt_eq (A := fun j => N1 6 (24 * i + j)) (B := fun j => N1 6 (24 * p + j)) hi4 hp (t1.trans em) (s1.trans en) hm hn tr sr
      obtain ⟨N', e2, b1⟩ := chd_eq hi4 hp em en hm hn
      have h' : Rel M' N' := h.scr (fun x hx => a1 x (by omega)) ⟨fun x hx => b1 x (by omega), by rw [b1 0 (by omega)], by rw [b1 0 (by omega)], by rw [b1 0 (by omega)]⟩
      rw [if_pos z2, if_pos z2, e1, e2]
      simp only [Option.bind_some]
      have un := uc_none hx.1
      have take : ∀ v, Eqv (f_X9_from_b94 (f_X9_from_b38 f) (nI p) (112 + 2 * p) (nI i) v M') (f_X10_from_b77 (f_X10_from_b30 f) (nI p) (nI i) v N') := by
        intro v
        rw [f_X9_from_b94, f_X10_from_b77, f_X9_from_b101, f_X10_from_b83, nI_1]
        have hb : (nI i).toInt = (i : Int) := nI_toInt (by omega)
        have := ih f (i + 1) (nI i) v M' N' (by omega) (by omega) (by rw [hb]; omega) h'
        rw [show uc (nI i) = nI i from by unfold uc; rw [if_pos (by rw [i_le, i_0, hb]; omega)]] at this
        exact this
      by_cases z3 : x2 < 0
      · rw [if_pos (un.mpr z3), if_pos z3]
        exact take _
      · rw [if_neg (fun y => z3 (un.mp y)), if_neg z3]
        by_cases z4 : x3 ≤ nI (ed (fun j => N1 6 (24 * i + j)) (fun j => N1 6 (24 * p + j)) m n)
        · rw [if_pos z4, if_pos z4, f_X9_from_b101, f_X10_from_b83, nI_1]
          exact ih f (i + 1) x2 x3 M' N' (by omega) (by omega) hx h'
        · rw [if_neg z4, if_neg z4]
          exact take _
  exact key 4 FU 0 (-1) 0 M N (by omega) (by unfold FU; omega) (by decide) h
