/-! A TEXT'S VALUE -/
def nmv (dd aa oo v : Int32) : Int32 := if v = 100 then dd else if v = 97 then aa else oo
def jn (c x y : Int32) : Int32 := if c = 38 then (if x = 0 then 0 else if y = 0 then 0 else 1) else if c = 42 then x * y else if c = 43 then x + y else if c = 45 then x - y else if c = 60 then (if y ≤ x then 0 else 1) else if c = 61 then (if x = y then 1 else 0) else if c = 62 then (if x ≤ y then 0 else 1) else if c = 124 then (if x = 0 then (if y = 0 then 0 else 1) else 1) else if y = 0 then 0 else x / y
theorem joinedC_eq (c x y : Int32) (M : Mem) : f_X8_joined c x y M = some (jn c x y, M) := by
  unfold f_X8_joined f_X8_joined_b0 f_X8_joined_b84 jn
  repeat' split
  all_goals first | rfl | contradiction
theorem div_m1 (x : Int32) : x / (-1) = -x := by
  have : (-1 : Int32).toInt = -1 := by decide
  rw [i_eq, Int32.toInt_div, this, Int.tdiv_neg, Int.tdiv_one, Int32.toInt_neg]
theorem joinedM_eq {c : Int32} (hc : c = 38 ∨ c = 42 ∨ c = 43 ∨ c = 45 ∨ c = 47 ∨ c = 60 ∨ c = 61 ∨ c = 62 ∨ c = 124) (x y : Int32) (M : Mem) : f_X10_joined c x y M = some (jn c x y, M) := by
  rcases hc with rfl | rfl | rfl | rfl | rfl | rfl | rfl | rfl | rfl
  all_goals simp [f_X10_joined, f_X10_joined_b0, f_X10_joined_b197, f_X10_joined_b205, jn]
  all_goals (repeat' split)
  all_goals first | rfl | contradiction | (rename_i h1 h2; rw [h2, div_m1]) | simp_all
abbrev wAt (S : Row) (j p : Nat) : Int32 := S (290 + 200 * j + 4 + 2 * p)
abbrev vAt (S : Row) (j p : Nat) : Int32 := S (290 + 200 * j + 4 + 2 * p + 1)
def hgt (S : Row) (j : Nat) : Nat → Nat
  | 0 => 0
  | p + 1 => if wAt S j p = 0 ∨ wAt S j p = 1 then hgt S j p + 1 else if vAt S j p = 33 then hgt S j p else hgt S j p - 1
def pst (S : Row) (j : Nat) (dd aa oo : Int32) : Nat → Row
  | 0 => fun _ => 0
  | p + 1 => if wAt S j p = 0 then upd (pst S j dd aa oo p) (hgt S j p) (vAt S j p) else if wAt S j p = 1 then upd (pst S j dd aa oo p) (hgt S j p) (nmv dd aa oo (vAt S j p)) else if vAt S j p = 33 then upd (pst S j dd aa oo p) (hgt S j p - 1) (if pst S j dd aa oo p (hgt S j p - 1) = 0 then 1 else 0) else upd (pst S j dd aa oo p) (hgt S j p - 2) (jn (vAt S j p) (pst S j dd aa oo p (hgt S j p - 2)) (pst S j dd aa oo p (hgt S j p - 1)))
/-- a text that is well made: its heights -/
theorem hgt_D {S : Row} {j n : Nat} {D : Nat → Nat} (h0 : D 0 = 0) (hs : ∀ p, p < n → stepOk (wAt S j p) (vAt S j p) (D p) (D (p + 1))) : ∀ p, p ≤ n → hgt S j p = D p ∧ D p ≤ p := by
  intro p
  induction p with
  | zero => intro _; exact ⟨h0.symm, by omega⟩
  | succ p ih =>
    intro hp
    obtain ⟨h1, h2⟩ := ih (by omega)
    have h := hs p (by omega)
    rw [hgt, h1]
    rcases h with ⟨a, b, c⟩ | ⟨a, b, c⟩ | ⟨a, b, c, d⟩ | ⟨a, b, c, d⟩
    · rw [if_pos (Or.inl a)]; omega
    · rw [if_pos (Or.inr a)]; omega
    · rw [if_neg (by rw [a]; decide), if_pos b]; omega
    · rw [if_neg (by rw [a]; decide), if_neg (by rcases b with b | b | b | b | b | b | b | b | b <;> rw [b] <;> decide)]; omega
theorem neg_small {v : Int32} (h : 0 ≤ v.toInt ∧ v.toInt ≤ 9999) : ¬ 0 < -v := by
  rw [i_lt, i_0, Int32.toInt_neg]
  have : (-v.toInt).bmod (2 ^ 32) = -v.toInt := by
    apply Int.bmod_eq_of_le <;> omega
  rw [this]
  omega
theorem valueFor_eq {M : Mem} {S : Row} {j mk : Nat} (hj : j < 14) (hmk : mk ≠ 47) (hok : TxOk S j) (heq : TxEq (M (19 + 2 * j)) (M (20 + 2 * j)) S j) : ∃ M', f_X8_valueFor (19 + 2 * j) mk 47 M = some (pst S j (M mk 2) (M mk 3) (M mk 4) (S (290 + 200 * j + 2)).toInt.toNat 0, M') ∧ ∀ x, x ≠ 47 → M' x = M x := by
  obtain ⟨-, n, hn, en, D, hD0, hDn, hst⟩ := hok
  obtain ⟨-, -, -, elen, ecode⟩ := heq
  have hh := hgt_D hD0 hst
  have hnn : (S (290 + 200 * j + 2)).toInt.toNat = n := by rw [en, nI_toInt (by omega)]; omega
  rw [hnn]
  obtain ⟨-, r2⟩ := rf_tx j hj
  have key : ∀ (r fuel p : Nat) (M1 : Mem), p + r = n → r < fuel → (∀ x, x ≠ 47 → M1 x = M x) → (∀ i, i < hgt S j p → M1 47 i = pst S j (M mk 2) (M mk 3) (M mk 4) p i) → ∃ M', f_X8_valueFor_b5 fuel (19 + 2 * j) mk 47 (nI (hgt S j p)) (nI p) M1 = some (pst S j (M mk 2) (M mk 3) (M mk 4) n 0, M') ∧ ∀ x, x ≠ 47 → M' x = M x := by
    intro r
    induction r with
    | zero =>
      intro fuel p M1 hp hf hM hP
      obtain ⟨f, rfl⟩ : ∃ f, fuel = f + 1 := ⟨fuel - 1, by omega⟩
      have hpn : p = n := by omega
      subst hpn
      rw [f_X8_valueFor_b5, hM _ (by omega), elen, en, if_pos (nI_le (Nat.le_refl _) (by omega)), f_X8_valueFor_b174]
      refine ⟨M1, ?_, hM⟩
      rw [hP 0 (by rw [(hh p (Nat.le_refl _)).1, hDn]; omega)]
    | succ r ih =>
      intro fuel p M1 hp hf hM hP
      obtain ⟨f, rfl⟩ : ∃ f, fuel = f + 1 := ⟨fuel - 1, by omega⟩
      obtain ⟨hh1, hh2⟩ := hh p (by omega)
      have hle : hgt S j p ≤ p := by omega
      have hcd : M1 (20 + 2 * j) p = codeOf (wAt S j p) (vAt S j p) := by
        rw [hM _ (by omega)]
        exact ecode p (by rw [en]; exact nI_lt (by omega) (by omega)) (by omega)
      have next : ∀ (M2 : Mem), (∀ x, x ≠ 47 → M2 x = M x) → (∀ i, i < hgt S j (p + 1) → M2 47 i = pst S j (M mk 2) (M mk 3) (M mk 4) (p + 1) i) → ∃ M', f_X8_valueFor_b168 (f_X8_valueFor_b5 f) (19 + 2 * j) mk 47 (nI (hgt S j (p + 1))) (nI p) M2 = some (pst S j (M mk 2) (M mk 3) (M mk 4) n 0, M') ∧ ∀ x, x ≠ 47 → M' x = M x := by
        intro M2 a b
        rw [f_X8_valueFor_b168, nI_1]
        exact ih f (p + 1) M2 (by omega) (by omega) a b
      rw [f_X8_valueFor_b5, hM (19 + 2 * j) (by omega), elen, en, if_neg (nI_ge (by omega) (by omega)), if_neg (show ¬ (96 : Int32) ≤ nI (hgt S j p) from by rw [i_lit]; exact nI_ge (by omega) (by omega)), if_pos (ixb_t (by omega) (by omega)), ix_nI (by omega), r2, hcd]
      have hs := hst p (by omega)
      rw [← hh1] at hs
      rcases hs with ⟨a, b, c⟩ | ⟨a, b, c⟩ | ⟨a, b, c, d⟩ | ⟨a, b, c, d⟩
      · have a : wAt S j p = 0 := a
        have e : codeOf (wAt S j p) (vAt S j p) = vAt S j p := by unfold codeOf; rw [if_pos a]
        have hgn : hgt S j (p + 1) = hgt S j p + 1 := by rw [hgt, if_pos (Or.inl a)]
        rw [e, if_neg (neg_small b), if_pos (ixb_t (by omega) (by omega)), ix_nI (by omega), Int32.neg_neg, nI_1, ← hgn]
        refine next _ (fun x hx => by rw [mset_ne hx]; exact hM x hx) (fun i hi => ?_)
        rw [mset_self, pst, if_pos a]
        unfold upd
        by_cases hi2 : i = hgt S j p
        · rw [if_pos hi2, if_pos hi2]
        · rw [if_neg hi2, if_neg hi2]
          exact hP i (by omega)
      · have a : wAt S j p = 1 := a
        have an : ¬ wAt S j p = 0 := by rw [a]; decide
        have e : -codeOf (wAt S j p) (vAt S j p) = vAt S j p := by unfold codeOf; rw [if_neg an, Int32.neg_neg]
        have hgn : hgt S j (p + 1) = hgt S j p + 1 := by rw [hgt, if_pos (Or.inr a)]
        rw [e]
        have fin : ∀ v0, v0 = nmv (M mk 2) (M mk 3) (M mk 4) (vAt S j p) → ∃ M', f_X8_valueFor_b105 (f_X8_valueFor_b5 f) (19 + 2 * j) mk 47 (nI (hgt S j p) + 1) (nI p) v0 (nI (hgt S j p)) 47 M1 = some (pst S j (M mk 2) (M mk 3) (M mk 4) n 0, M') ∧ ∀ x, x ≠ 47 → M' x = M x := by
          intro v0 hv0
          rw [f_X8_valueFor_b105, if_pos (ixb_t (by omega) (by omega)), ix_nI (by omega), nI_1, ← hgn]
          refine next _ (fun x hx => by rw [mset_ne hx]; exact hM x hx) (fun i hi => ?_)
          rw [mset_self, pst, if_neg an, if_pos a, hv0]
          unfold upd
          by_cases hi2 : i = hgt S j p
          · rw [if_pos hi2, if_pos hi2]
          · rw [if_neg hi2, if_neg hi2]
            exact hP i (by omega)
        rcases b with b | b | b
        · have b : vAt S j p = 100 := b
          rw [b] at fin ⊢
          rw [if_pos (by decide), if_pos rfl, f_X8_valueFor_b68, if_pos rfl]
          exact fin _ (by rw [hM mk hmk]; rfl)
        · have b : vAt S j p = 97 := b
          rw [b] at fin ⊢
          rw [if_pos (by decide), if_neg (by decide), if_pos rfl, f_X8_valueFor_b68, if_neg (by decide), if_pos rfl]
          exact fin _ (by rw [hM mk hmk]; rfl)
        · have b : vAt S j p = 111 := b
          rw [b] at fin ⊢
          rw [if_pos (by decide), if_neg (by decide), if_neg (by decide), if_pos rfl, f_X8_valueFor_b68, if_neg (by decide), if_neg (by decide)]
          exact fin _ (by rw [hM mk hmk]; rfl)
      · have a : wAt S j p = 2 := a
        have b : vAt S j p = 33 := b
        have an : ¬ wAt S j p = 0 := by rw [a]; decide
        have an1 : ¬ wAt S j p = 1 := by rw [a]; decide
        have e : -codeOf (wAt S j p) (vAt S j p) = 33 := by unfold codeOf; rw [if_neg an, Int32.neg_neg, b]
        have hgn : hgt S j (p + 1) = hgt S j p := by rw [hgt, if_neg (by rw [a]; decide), if_pos b]
        have hm1 : nI (hgt S j p) - 1 = nI (hgt S j p - 1) := by rw [i_lit]; exact pk_sub (by omega)
        rw [e, if_pos (by decide), if_neg (by decide), if_neg (by decide), if_neg (by decide), if_pos rfl, if_neg (show ¬ nI (hgt S j p) < 1 from by rw [i_lit]; exact nI_nlt (by omega) (by omega)), hm1, if_pos (ixb_t (by omega) (by omega)), ix_nI (by omega)]
        have fin : ∀ v0, v0 = (if pst S j (M mk 2) (M mk 3) (M mk 4) p (hgt S j p - 1) = 0 then (1 : Int32) else 0) → ∃ M', f_X8_valueFor_b138 (f_X8_valueFor_b5 f) (19 + 2 * j) mk 47 (nI (hgt S j p)) (nI p) v0 (nI (hgt S j p - 1)) 47 M1 = some (pst S j (M mk 2) (M mk 3) (M mk 4) n 0, M') ∧ ∀ x, x ≠ 47 → M' x = M x := by
          intro v0 hv0
          rw [f_X8_valueFor_b138, if_pos (ixb_t (by omega) (by omega)), ix_nI (by omega), ← hgn]
          refine next _ (fun x hx => by rw [mset_ne hx]; exact hM x hx) (fun i hi => ?_)
          rw [hgn] at hi ⊢
          rw [mset_self, pst, if_neg an, if_neg an1, if_pos b, hv0]
          unfold upd
          by_cases hi2 : i = hgt S j p - 1
          · rw [if_pos hi2, if_pos hi2]
          · rw [if_neg hi2, if_neg hi2]
            exact hP i hi
        rw [hP (hgt S j p - 1) (by omega)]
        by_cases hz : pst S j (M mk 2) (M mk 3) (M mk 4) p (hgt S j p - 1) = 0
        · rw [if_pos hz]
          exact fin _ (by rw [if_pos hz])
        · rw [if_neg hz]
          exact fin _ (by rw [if_neg hz])
      · have a : wAt S j p = 2 := a
        have an : ¬ wAt S j p = 0 := by rw [a]; decide
        have an1 : ¬ wAt S j p = 1 := by rw [a]; decide
        have hv : vAt S j p = 38 ∨ vAt S j p = 42 ∨ vAt S j p = 43 ∨ vAt S j p = 45 ∨ vAt S j p = 47 ∨ vAt S j p = 60 ∨ vAt S j p = 61 ∨ vAt S j p = 62 ∨ vAt S j p = 124 := b
        have b33 : ¬ vAt S j p = 33 := by rcases hv with b | b | b | b | b | b | b | b | b <;> rw [b] <;> decide
        have bp : 0 < vAt S j p ∧ ¬ vAt S j p = 100 ∧ ¬ vAt S j p = 97 ∧ ¬ vAt S j p = 111 := by rcases hv with b | b | b | b | b | b | b | b | b <;> rw [b] <;> decide
        have e : -codeOf (wAt S j p) (vAt S j p) = vAt S j p := by unfold codeOf; rw [if_neg an, Int32.neg_neg]
        have hgn : hgt S j (p + 1) = hgt S j p - 1 := by rw [hgt, if_neg (by rw [a]; decide), if_neg b33]
        have hm1 : nI (hgt S j p) + (-1 : Int32) = nI (hgt S j p - 1) := by
          rw [show nI (hgt S j p) + (-1 : Int32) = nI (hgt S j p) - 1 from by rw [Int32.sub_eq_add_neg], i_lit]; exact pk_sub (by omega)
        have hm2 : nI (hgt S j p - 1) - 1 = nI (hgt S j p - 2) := by rw [i_lit]; exact pk_sub (by omega)
        rw [e, if_pos bp.1, if_neg bp.2.1, if_neg bp.2.2.1, if_neg bp.2.2.2, if_neg b33, f_X8_valueFor_b142, if_neg (show ¬ nI (hgt S j p) < 2 from by rw [i_lit]; exact nI_nlt (by omega) (by omega)), hm1, hm2, if_pos (ixb_t (by omega) (by omega)), if_pos (ixb_t (by omega) (by omega)), ix_nI (by omega), ix_nI (by omega), joinedC_eq]
        simp only [Option.bind_some]
        rw [if_pos (ixb_t (by omega) (by omega)), ← hgn]
        refine next _ (fun x hx => by rw [mset_ne hx]; exact hM x hx) (fun i hi => ?_)
        rw [hgn] at hi ⊢
        rw [mset_self, pst, if_neg an, if_neg an1, if_neg b33, hP (hgt S j p - 2) (by omega), hP (hgt S j p - 1) (by omega)]
        unfold upd
        by_cases hi2 : i = hgt S j p - 2
        · rw [if_pos hi2, if_pos hi2]
        · rw [if_neg hi2, if_neg hi2]
          exact hP i (by omega)
  unfold f_X8_valueFor f_X8_valueFor_b0
  exact key n FU 0 M (by omega) (by unfold FU; omega) (fun _ _ => rfl) (fun i hi => absurd hi (Nat.not_lt_zero i))
