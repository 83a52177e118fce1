/-! TEXTS: which counts; what it gives -/
theorem irem_nI {a d : Nat} (ha : a < 2 ^ 31) (h0 : 0 < d) (hd : d < 2 ^ 31) : irem (nI a) (nI d) = nI (a % d) := pk_rem ha h0 hd
def lastT (S : Row) (kv : Int32) : Nat → Option Nat
  | 0 => none
  | t + 1 => if S (290 + 200 * t) = kv then some t else lastT S kv t
theorem lastT_lt {S : Row} {kv : Int32} : ∀ {t j : Nat}, lastT S kv t = some j → j < t ∧ S (290 + 200 * j) = kv := by
  intro t
  induction t with
  | zero => intro j h; cases h
  | succ t ih =>
    intro j h
    rw [lastT] at h
    by_cases hc : S (290 + 200 * t) = kv
    · rw [if_pos hc] at h
      cases h
      exact ⟨Nat.lt_succ_self _, hc⟩
    · rw [if_neg hc] at h
      obtain ⟨h1, h2⟩ := ih h
      exact ⟨by omega, h2⟩
theorem nI_ne {a b : Nat} (ha : a < 2 ^ 31) (hb : b < 2 ^ 31) (h : a ≠ b) : nI a ≠ nI b := fun q => h ((nI_eq ha hb).mp q)
theorem nI_lt0 {a : Nat} (ha : a < 2 ^ 31) : ¬ nI a < 0 := nI_pos ha
theorem textFor_eq {co : Nat} (hco : co = 48 ∨ co = 80) {M : Mem} {S : Row} {t v k : Nat} (ht : M co 10 = nI t) (hT : RTexts (fun j => M (19 + 2 * j)) (fun j => M (20 + 2 * j)) S t) (hv : v < 3) (hk : k < 3) : f_X0_textFor co (nI v) (nI k) M = some ((match lastT S (nI (3 * k + v)) t with | none => (-1000000005 : Int32) | some j => nI j), M) := by
  have key : ∀ (t' fuel : Nat), t' ≤ t → t' < fuel → f_X0_textFor_b7 fuel co (nI v) (nI k) (nI t' - 1) M = some ((match lastT S (nI (3 * k + v)) t' with | none => (-1000000005 : Int32) | some j => nI j), M) := by
    intro t'
    induction t' with
    | zero =>
      intro fuel _ hf
      obtain ⟨f, rfl⟩ : ∃ f, fuel = f + 1 := ⟨fuel - 1, by omega⟩
      rw [f_X0_textFor_b7, if_pos (by decide)]
      rfl
    | succ t' ih =>
      intro fuel h1 hf
      obtain ⟨f, rfl⟩ : ∃ f, fuel = f + 1 := ⟨fuel - 1, by omega⟩
      have ht14 := hT.1
      obtain ⟨⟨⟨kv, hkv, ekv⟩, -⟩, e0, e1, -⟩ := hT.2.2 t' (by omega)
      obtain ⟨r1, r2⟩ := rf_tx t' (by omega)
      have hrc := rf_co co hco
      rw [nI_pred, f_X0_textFor_b7, if_neg (nI_lt0 (by omega)), if_pos (ixb_t (by omega) (by omega)), ix_nI (by omega), hrc.2.1, r1]
      have e0 : M (19 + 2 * t') 0 = nI (kv / 3) := by
        refine e0.trans ?_
        rw [ekv]
        exact pk_div (d := 3) (by omega) (by omega) (by omega)
      have e1 : M (19 + 2 * t') 1 = nI (kv % 3) := by
        refine e1.trans ?_
        rw [ekv]
        exact irem_nI (d := 3) (by omega) (by omega) (by omega)
      rw [e0, e1, if_pos (ixb_t (by omega) (by omega)), lastT, ekv]
      have go : f_X0_textFor_b39 (f_X0_textFor_b7 f) co (nI v) (nI k) (nI t') M = some ((match lastT S (nI (3 * k + v)) t' with | none => (-1000000005 : Int32) | some j => nI j), M) := by
        rw [f_X0_textFor_b39]
        have := ih f (by omega) (by omega)
        rw [show nI t' + (-1 : Int32) = nI t' - 1 from by rw [Int32.sub_eq_add_neg]]
        exact this
      by_cases h2 : kv % 3 = v
      · rw [if_pos (by rw [h2])]
        by_cases h3 : kv / 3 = k
        · rw [if_pos (by rw [h3]), if_pos (by congr 1; omega)]
        · rw [if_neg (nI_ne (by omega) (by omega) h3), if_neg (nI_ne (by omega) (by omega) (by omega))]
          exact go
      · rw [if_neg (nI_ne (by omega) (by omega) h2), if_neg (nI_ne (by omega) (by omega) (by omega))]
        exact go
  unfold f_X0_textFor f_X0_textFor_b0
  rw [ht]
  exact key t FU (Nat.le_refl _) (by have := hT.1; unfold FU; omega)
theorem textAt_eq {j : Nat} (N : Mem) : f_X10_textAt (nI j) N = some (nI (290 + 200 * j), N) := by
  unfold f_X10_textAt f_X10_textAt_b0
  rw [show (290 : Int32) + (200 : Int32) * nI j = nI (290 + 200 * j) from by rw [i_lit, i_lit, nI_mul, nI_add]]
theorem counts_eq {N : Mem} {t v k : Nat} (ht : N 1 1 = nI t) (ht14 : t ≤ 14) (hv : v < 3) (hk : k < 3) : f_X10_counts (nI v) (nI k) N = some ((match lastT (N 1) (nI (3 * k + v)) t with | none => (-1 : Int32) | some j => nI j), N) := by
  have key : ∀ (r fuel t' : Nat), t' + r = t → r < fuel → f_X10_counts_b5 fuel (nI v) (nI k) (match lastT (N 1) (nI (3 * k + v)) t' with | none => (-1 : Int32) | some j => nI j) (nI t') N = some ((match lastT (N 1) (nI (3 * k + v)) t with | none => (-1 : Int32) | some j => nI j), N) := by
    intro r
    induction r with
    | zero =>
      intro fuel t' h1 hf
      obtain ⟨f, rfl⟩ : ∃ f, fuel = f + 1 := ⟨fuel - 1, by omega⟩
      have : t' = t := by omega
      subst this
      rw [f_X10_counts_b5, ht, if_pos (nI_le (Nat.le_refl _) (by omega))]
    | succ r ih =>
      intro fuel t' h1 hf
      obtain ⟨f, rfl⟩ : ∃ f, fuel = f + 1 := ⟨fuel - 1, by omega⟩
      rw [f_X10_counts_b5, ht, if_neg (nI_ge (by omega) (by omega)), textAt_eq]
      simp only [Option.bind_some]
      rw [if_pos (ixb_t (by omega) (by omega)), ix_nI (by omega)]
      have e3 : (3 : Int32) * nI k + nI v = nI (3 * k + v) := by rw [i_lit, nI_mul, nI_add]
      rw [e3]
      have h2 := ih f (t' + 1) (by omega) (by omega)
      rw [lastT] at h2
      by_cases hc : N 1 (290 + 200 * t') = nI (3 * k + v)
      · rw [if_pos hc] at h2 ⊢
        rw [f_X10_counts_b41, nI_1]
        exact h2
      · rw [if_neg hc] at h2 ⊢
        rw [f_X10_counts_b41, nI_1]
        exact h2
  unfold f_X10_counts f_X10_counts_b0
  exact key t FU 0 (by omega) (by unfold FU; omega)
