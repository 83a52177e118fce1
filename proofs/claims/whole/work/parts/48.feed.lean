/-! FEED -/
theorem Rel.byte {M N : Mem} (h : Rel M N) {n : Nat} {b : Int32} (hn : n < 96) (e1 : M 1 1 = nI n) (hb : 0 ≤ b.toInt ∧ b.toInt ≤ 255) : Rel (mset (mset M 1 1 (nI (n + 1))) 2 n b) (mset (mset N 12 n b) 0 13 (nI (n + 1))) := by
  obtain ⟨n', hn', ex, ey, hw⟩ := h.2.2.1
  have : n' = n := (nI_eq (by omega) (by omega)).mp (ex.symm.trans e1)
  subst this
  refine h.wt ?_ ?_ ?_ ?_ ?_ ?_
  · rw [mset_self, mset_ne (show (2 : Nat) ≠ 1 by omega), mset_ne (show (12 : Nat) ≠ 0 by omega), mset_self, mset_ne (show (1 : Nat) ≠ 2 by omega), mset_at, mset_at]
    refine ⟨n' + 1, by omega, rfl, rfl, fun i hi => ?_⟩
    unfold upd
    by_cases z : i = n'
    · rw [if_pos z, if_pos z]
      exact ⟨rfl, hb⟩
    · rw [if_neg z, if_neg z]
      exact hw i (by omega)
  · rw [mset_ne (show (17 : Nat) ≠ 2 by omega), mset_ne (show (17 : Nat) ≠ 1 by omega), mset_ne (show (22 : Nat) ≠ 0 by omega), mset_ne (show (22 : Nat) ≠ 12 by omega), mset_ne (show (0 : Nat) ≠ 2 by omega), mset_ne (show (0 : Nat) ≠ 1 by omega), mset_k (show (45 : Nat) ≠ 13 by omega), mset_ne (show (0 : Nat) ≠ 12 by omega)]
    exact h.2.2.2.2.2
  · rw [mset_ne (by omega), mset_ne (by omega)]
  · rw [mset_k (by omega), mset_ne (by omega)]
  · intro x a b
    rw [mset_ne (by omega), mset_ne (by omega)]
  · intro x a
    rw [mset_ne (by omega), mset_ne (by omega)]
