theorem worked_eq {N : Mem} {j : Nat} {dd aa oo : Int32} (hj : j < 14) (hok : TxOk (N 1) j) (hd : N 13 100 = dd) (ha : N 13 97 = aa) (hoo : N 13 111 = oo) : ∃ N', f_X10_worked (nI j) N = some (pst (N 1) j dd aa oo (N 1 (290 + 200 * j + 2)).toInt.toNat 0, N') ∧ ∀ x, x ≠ 14 → N' x = N x := by
  obtain ⟨-, n, hn, en, D, hD0, hDn, hst⟩ := hok
  have hh := hgt_D hD0 hst
  have hnn : (N 1 (290 + 200 * j + 2)).toInt.toNat = n := by rw [en, nI_toInt (by omega)]; omega
  rw [hnn]
  have e2 : nI (290 + 200 * j) + 2 = nI (290 + 200 * j + 2) := by rw [i_lit, nI_add]
  have key : ∀ (r fuel p : Nat) (M1 : Mem), p + r = n → r < fuel → (∀ x, x ≠ 14 → M1 x = N x) → (∀ i, i < hgt (N 1) j p → M1 14 i = pst (N 1) j dd aa oo p i) → ∃ N', f_X10_worked_b4 fuel (nI j) (nI (hgt (N 1) j p)) (nI p) M1 = some (pst (N 1) j dd aa oo n 0, N') ∧ ∀ x, x ≠ 14 → N' x = N x := by
    intro r
    induction r with
    | zero =>
      intro fuel p M1 hp hf hM hP
      obtain ⟨f, rfl⟩ : ∃ f, fuel = f + 1 := ⟨fuel - 1, by omega⟩
      have hpn : p = n := by omega
      subst hpn
      rw [f_X10_worked_b4]
      simp only [textAt_eq, Option.bind_some]
      rw [e2, if_pos (ixb_t (by omega) (by omega)), ix_nI (by omega), hM 1 (by omega), en, if_pos (nI_le (Nat.le_refl _) (by omega)), f_X10_worked_b163]
      refine ⟨M1, ?_, hM⟩
      rw [hP 0 (by rw [(hh p (Nat.le_refl _)).1, hDn]; omega)]
    | succ r ih =>
      intro fuel p M1 hp hf hM hP
      obtain ⟨f, rfl⟩ : ∃ f, fuel = f + 1 := ⟨fuel - 1, by omega⟩
      obtain ⟨hh1, hh2⟩ := hh p (by omega)
      have hle : hgt (N 1) j p ≤ p := by omega
      have e4 : nI (290 + 200 * j) + 4 + 2 * nI p = nI (290 + 200 * j + 4 + 2 * p) := by rw [i_lit, i_lit, nI_mul, nI_add, nI_add]
      have e5 : nI (290 + 200 * j + 4 + 2 * p) + 1 = nI (290 + 200 * j + 4 + 2 * p + 1) := nI_1 _
      have next : ∀ (M2 : Mem), (∀ x, x ≠ 14 → M2 x = N x) → (∀ i, i < hgt (N 1) j (p + 1) → M2 14 i = pst (N 1) j dd aa oo (p + 1) i) → ∃ N', f_X10_worked_b157 (f_X10_worked_b4 f) (nI j) (nI (hgt (N 1) j (p + 1))) (nI p) M2 = some (pst (N 1) j dd aa oo n 0, N') ∧ ∀ x, x ≠ 14 → N' x = N x := by
        intro M2 a b
        rw [f_X10_worked_b157, nI_1]
        exact ih f (p + 1) M2 (by omega) (by omega) a b
      rw [f_X10_worked_b4]
      simp only [textAt_eq, Option.bind_some]
      rw [e2, e4, e5, if_pos (ixb_t (by omega) (by omega)), ix_nI (by omega), hM 1 (by omega), en, if_neg (nI_ge (by omega) (by omega)), if_pos (ixb_t (by omega) (by omega)), ix_nI (by omega), if_pos (ixb_t (by omega) (by omega)), ix_nI (by omega)]
      have push : ∀ v0, hgt (N 1) j (p + 1) = hgt (N 1) j p + 1 → pst (N 1) j dd aa oo (p + 1) = upd (pst (N 1) j dd aa oo p) (hgt (N 1) j p) v0 → ∃ N', f_X10_worked_b86 (f_X10_worked_b4 f) (nI j) (nI (hgt (N 1) j p)) (nI p) v0 (nI (hgt (N 1) j p)) M1 = some (pst (N 1) j dd aa oo n 0, N') ∧ ∀ x, x ≠ 14 → N' x = N x := by
        intro v0 hgn hps
        rw [f_X10_worked_b86, if_pos (ixb_t (by omega) (by omega)), ix_nI (by omega), nI_1, ← hgn]
        refine next _ (fun x hx => by rw [mset_ne hx]; exact hM x hx) (fun i hi => ?_)
        rw [mset_self, hps]
        unfold upd
        by_cases hi2 : i = hgt (N 1) j p
        · rw [if_pos hi2, if_pos hi2]
        · rw [if_neg hi2, if_neg hi2]
          exact hP i (by omega)
      have hs := hst p (by omega)
      rw [← hh1] at hs
      rcases hs with ⟨a, b, c⟩ | ⟨a, b, c⟩ | ⟨a, b, c, d⟩ | ⟨a, b, c, d⟩
      · rw [if_neg (show ¬ N 1 (290 + 200 * j + 4 + 2 * p) = 2 by rw [a]; decide), if_pos (show N 1 (290 + 200 * j + 4 + 2 * p) = 0 from a)]
        exact push _ (by rw [hgt, if_pos (Or.inl a)]) (by rw [pst, if_pos a])
      · have an : ¬ wAt (N 1) j p = 0 := by rw [show wAt (N 1) j p = 1 from a]; decide
        have hb2 : (nI (N 1 (290 + 200 * j + 4 + 2 * p + 1)).toInt.toNat) = N 1 (290 + 200 * j + 4 + 2 * p + 1) := by
          rcases b with b | b | b <;> rw [b] <;> decide
        have hb3 : ixb (N 1 (290 + 200 * j + 4 + 2 * p + 1)) 128 = true := by rcases b with b | b | b <;> rw [b] <;> decide
        rw [if_neg (show ¬ N 1 (290 + 200 * j + 4 + 2 * p) = 2 by rw [a]; decide), if_neg (show ¬ N 1 (290 + 200 * j + 4 + 2 * p) = 0 from an), if_pos hb3, hM 13 (by omega)]
        refine push _ (by rw [hgt, if_pos (Or.inr a)]) ?_
        rw [pst, if_neg an, if_pos a]
        congr 1
        rcases b with b | b | b
        · show nmv dd aa oo (N 1 (290 + 200 * j + 4 + 2 * p + 1)) = _
          rw [b, ← hd]; rfl
        · show nmv dd aa oo (N 1 (290 + 200 * j + 4 + 2 * p + 1)) = _
          rw [b, ← ha]; rfl
        · show nmv dd aa oo (N 1 (290 + 200 * j + 4 + 2 * p + 1)) = _
          rw [b, ← hoo]; rfl
      · have an : ¬ wAt (N 1) j p = 0 := by rw [show wAt (N 1) j p = 2 from a]; decide
        have an1 : ¬ wAt (N 1) j p = 1 := by rw [show wAt (N 1) j p = 2 from a]; decide
        have b : vAt (N 1) j p = 33 := b
        have hgn : hgt (N 1) j (p + 1) = hgt (N 1) j p := by rw [hgt, if_neg (by rw [show wAt (N 1) j p = 2 from a]; decide), if_pos b]
        have hm1 : nI (hgt (N 1) j p) - 1 = nI (hgt (N 1) j p - 1) := by rw [i_lit]; exact pk_sub (by omega)
        rw [if_pos (show N 1 (290 + 200 * j + 4 + 2 * p) = 2 from a), if_pos (show N 1 (290 + 200 * j + 4 + 2 * p + 1) = 33 from b), hm1, if_pos (ixb_t (by omega) (by omega)), ix_nI (by omega)]
        have fin : ∀ v0, v0 = (if pst (N 1) j dd aa oo p (hgt (N 1) j p - 1) = 0 then (1 : Int32) else 0) → ∃ N', f_X10_worked_b123 (f_X10_worked_b4 f) (nI j) (nI (hgt (N 1) j p)) (nI p) v0 (nI (hgt (N 1) j p - 1)) M1 = some (pst (N 1) j dd aa oo n 0, N') ∧ ∀ x, x ≠ 14 → N' x = N x := by
          intro v0 hv0
          rw [f_X10_worked_b123, if_pos (ixb_t (by omega) (by omega)), ix_nI (by omega), ← hgn]
          refine next _ (fun x hx => by rw [mset_ne hx]; exact hM x hx) (fun i hi => ?_)
          rw [hgn] at hi ⊢
          rw [mset_self, pst, if_neg an, if_neg an1, if_pos b, hv0]
          unfold upd
          by_cases hi2 : i = hgt (N 1) j p - 1
          · rw [if_pos hi2, if_pos hi2]
          · rw [if_neg hi2, if_neg hi2]
            exact hP i hi
        rw [hP (hgt (N 1) j p - 1) (by omega)]
        by_cases hz : pst (N 1) j dd aa oo p (hgt (N 1) j p - 1) = 0
        · rw [if_pos hz]
          exact fin _ (by rw [if_pos hz])
        · rw [if_neg hz]
          exact fin _ (by rw [if_neg hz])
      · have an : ¬ wAt (N 1) j p = 0 := by rw [show wAt (N 1) j p = 2 from a]; decide
        have an1 : ¬ wAt (N 1) j p = 1 := by rw [show wAt (N 1) j p = 2 from a]; decide
        have b33 : ¬ vAt (N 1) j p = 33 := by
          show ¬ N 1 (290 + 200 * j + 4 + 2 * p + 1) = 33
          rcases b with b | b | b | b | b | b | b | b | b <;> rw [b] <;> decide
        have hgn : hgt (N 1) j (p + 1) = hgt (N 1) j p - 1 := by rw [hgt, if_neg (by rw [show wAt (N 1) j p = 2 from a]; decide), if_neg b33]
        have hm1 : nI (hgt (N 1) j p) + (-1 : Int32) = nI (hgt (N 1) j p - 1) := by
          rw [show nI (hgt (N 1) j p) + (-1 : Int32) = nI (hgt (N 1) j p) - 1 from by rw [Int32.sub_eq_add_neg], i_lit]; exact pk_sub (by omega)
        have hm2 : nI (hgt (N 1) j p - 1) - 1 = nI (hgt (N 1) j p - 2) := by rw [i_lit]; exact pk_sub (by omega)
        rw [if_pos (show N 1 (290 + 200 * j + 4 + 2 * p) = 2 from a), if_neg b33, hm1, hm2, if_pos (ixb_t (by omega) (by omega)), if_pos (ixb_t (by omega) (by omega)), ix_nI (by omega), ix_nI (by omega), joinedM_eq b]
        simp only [Option.bind_some]
        rw [if_pos (ixb_t (by omega) (by omega)), ← hgn]
        refine next _ (fun x hx => by rw [mset_ne hx]; exact hM x hx) (fun i hi => ?_)
        rw [hgn] at hi ⊢
        rw [mset_self, pst, if_neg an, if_neg an1, if_neg b33, hP (hgt (N 1) j p - 2) (by omega), hP (hgt (N 1) j p - 1) (by omega)]
        unfold upd
        by_cases hi2 : i = hgt (N 1) j p - 2
        · rw [if_pos hi2, if_pos hi2]
        · rw [if_neg hi2, if_neg hi2]
          exact hP i (by omega)
  unfold f_X10_worked f_X10_worked_b0
  exact key n FU 0 N (by omega) (by unfold FU; omega) (fun _ _ => rfl) (fun i hi => absurd hi (Nat.not_lt_zero i))
