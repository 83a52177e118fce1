/-! FRAMES in the model's row -/
theorem MkOk.cgS {S S' : Row} {i : Nat} (h : MkOk S i) (e : ∀ k, k < 7 → S' (120 + 7 * i + k) = S (120 + 7 * i + k)) : MkOk S' i := by
  have e0 : S' (120 + 7 * i) = S (120 + 7 * i) := e 0 (by omega)
  unfold MkOk
  rw [e0, e 1 (by omega), e 2 (by omega), e 3 (by omega), e 4 (by omega), e 5 (by omega), e 6 (by omega)]
  exact h
theorem MkEq.cgS {c S S' : Row} {i : Nat} (h : MkEq c S i) (e : ∀ k, k < 7 → S' (120 + 7 * i + k) = S (120 + 7 * i + k)) : MkEq c S' i := by
  have e0 : S' (120 + 7 * i) = S (120 + 7 * i) := e 0 (by omega)
  unfold MkEq
  rw [e0, e 1 (by omega), e 2 (by omega), e 3 (by omega), e 4 (by omega), e 5 (by omega), e 6 (by omega)]
  exact h
theorem RMarks.cgS {mk : Nat → Row} {S S' : Row} {n : Nat} (h : RMarks mk S n) (e0 : S' 0 = S 0) (e : ∀ k, 120 ≤ k → k < 288 → S' k = S k) : RMarks mk S' n := by
  have hn := h.1
  exact ⟨h.1, by rw [e0]; exact h.2.1, fun i hi => ⟨(h.2.2 i hi).1.cgS (fun k hk => e _ (by omega) (by omega)), (h.2.2 i hi).2.cgS (fun k hk => e _ (by omega) (by omega))⟩⟩
theorem TxOk.cgS {S S' : Row} {j : Nat} (h : TxOk S j) (e : ∀ k, 290 + 200 * j ≤ k → k < 290 + 200 * j + 200 → S' k = S k) : TxOk S' j := by
  obtain ⟨⟨kv, h1, h2⟩, n, h3, h4, D, h5, h6, h7⟩ := h
  refine ⟨⟨kv, h1, by rw [e _ (by omega) (by omega)]; exact h2⟩, n, h3, by rw [e _ (by omega) (by omega)]; exact h4, D, h5, h6, fun p hp => ?_⟩
  rw [e (290 + 200 * j + 4 + 2 * p) (by omega) (by omega), e (290 + 200 * j + 4 + 2 * p + 1) (by omega) (by omega)]
  exact h7 p hp
theorem TxEq.cgS {c cd S S' : Row} {j : Nat} (h : TxEq c cd S j) (e : ∀ k, 290 + 200 * j ≤ k → k < 290 + 200 * j + 200 → S' k = S k) : TxEq c cd S' j := by
  obtain ⟨h1, h2, h3, h4, h5⟩ := h
  refine ⟨by rw [e _ (by omega) (by omega)]; exact h1, by rw [e _ (by omega) (by omega)]; exact h2, by rw [e _ (by omega) (by omega)]; exact h3, by rw [e _ (by omega) (by omega)]; exact h4, fun p hp hp2 => ?_⟩
  rw [e (290 + 200 * j + 2) (by omega) (by omega)] at hp
  rw [e (290 + 200 * j + 4 + 2 * p) (by omega) (by omega), e (290 + 200 * j + 4 + 2 * p + 1) (by omega) (by omega)]
  exact h5 p hp hp2
theorem RTexts.cgS {tx cd : Nat → Row} {S S' : Row} {t : Nat} (h : RTexts tx cd S t) (e0 : S' 1 = S 1) (e : ∀ k, 290 ≤ k → k < 290 + 200 * t → S' k = S k) : RTexts tx cd S' t := by
  have ht := h.1
  exact ⟨h.1, by rw [e0]; exact h.2.1, fun j hj => ⟨(h.2.2 j hj).1.cgS (fun k _ _ => e _ (by omega) (by omega)), (h.2.2 j hj).2.cgS (fun k _ _ => e _ (by omega) (by omega))⟩⟩
theorem RPass.cgS {c S S' : Row} {np : Nat} (h : RPass c S np) (e0 : S' 2 = S 2) (e : ∀ k, 50 ≤ k → k < 110 → S' k = S k) : RPass c S' np := by
  have hn := h.1
  refine ⟨h.1, by rw [e0]; exact h.2.1, fun p hp => ?_⟩
  unfold PsOk
  rw [e (50 + 3 * p) (by omega) (by omega), e (50 + 3 * p + 1) (by omega) (by omega), e (50 + 3 * p + 2) (by omega) (by omega)]
  exact h.2.2 p hp
theorem tcnt_cgS {S S' : Row} {cs : Nat → Nat} {v : Nat} : ∀ k, (∀ k', k' < k → S' (120 + 7 * cs k' + 1) = S (120 + 7 * cs k' + 1)) → tcnt S' cs v k = tcnt S cs v k := by
  intro k
  induction k with
  | zero => intro _; rfl
  | succ k ih =>
    intro h
    rw [tcnt, tcnt, ih (fun k' hk' => h k' (by omega))]
    unfold vyOf
    rw [h k (by omega)]
theorem RCho.cgS {ch ct S S' : Row} {n nc : Nat} {cs : Nat → Nat} (h : RCho ch ct S n nc cs) (e0 : S' 3 = S 3) (e : ∀ k, 30 ≤ k → k < 45 → S' k = S k) (e1 : ∀ i, i < n → S' (120 + 7 * i + 1) = S (120 + 7 * i + 1)) : RCho ch ct S' n nc cs := by
  obtain ⟨h1, h2, h3, h4, h5, h6⟩ := h
  have hc : ∀ k v, k ≤ nc → tcnt S' cs v k = tcnt S cs v k := fun k v hk => tcnt_cgS k (fun k' hk' => e1 _ (h3 k' (by omega)).1)
  refine ⟨by rw [e0]; exact h1, h2, fun k hk => ⟨(h3 k hk).1, by rw [e _ (by omega) (by omega)]; exact (h3 k hk).2⟩, h4, fun v hv => ?_, fun k hk => ?_⟩
  · rw [hc nc v (Nat.le_refl _)]
    exact h5 v hv
  · have : vyOf S' (cs k) = vyOf S (cs k) := by unfold vyOf; rw [e1 _ (h3 k hk).1]
    rw [this, hc k _ (by omega)]
    exact h6 k hk
theorem RSet.cgS {a b S S' : Row} (h : RSet a b S) (e : ∀ k, 10 ≤ k → k < 19 → S' k = S k) : RSet a b S' := fun v hv => by
  rw [e (10 + 3 * v) (by omega) (by omega), e (10 + 3 * v + 1) (by omega) (by omega), e (10 + 3 * v + 2) (by omega) (by omega)]
  exact h v hv
theorem RSur.cgS {a S S' : Row} (h : RSur a S) (e : ∀ k, 20 ≤ k → k < 29 → S' k = S k) : RSur a S' := fun v hv => by
  rw [e (20 + v) (by omega) (by omega)]
  exact h v hv
/-- only the coast as it is now has changed -/
theorem Rel.now {M M' N N' : Mem} (h : Rel M N) (hR : RCo M' (N' 1) 48) (hM : ∀ x, (x < 3 ∨ (14 ≤ x ∧ x < 47 ∧ x ≠ 16) ∨ 80 ≤ x) → M' x = M x) (hN : ∀ x, (2 ≤ x ∧ x ≤ 12 ∧ x ≠ 3) ∨ x = 22 → N' x = N x) (h3 : N' 0 3 = N 0 3) (h13 : N' 0 13 = N 0 13) (h45 : N' 0 45 = N 0 45) (ht : (N 1 1).toInt ≤ (N' 1 1).toInt) : Rel M' N' := by
  obtain ⟨-, ⟨h2, h2'⟩, h4, h5, h6, h7⟩ := h
  have c0 := hM 0 (by omega)
  refine ⟨hR, ⟨by rw [c0, h3]; exact h2, ?_⟩, ?_, ?_, ?_, ?_⟩
  · rw [h3, hN 2 (by omega)]
    rcases h2' with a | ⟨a, b, c⟩
    · exact Or.inl a
    · exact Or.inr ⟨a, b.cg (hM _ (by omega)) (fun x _ _ => hM x (by omega)) (fun x _ _ => hM x (by omega)), by omega⟩
  · rw [hM 2 (by omega), hM 1 (by omega), hN 12 (by omega), h13]; exact h4
  · rw [hN 4 (by omega), hN 5 (by omega), hN 6 (by omega)]; exact h5.cg (fun x _ _ => hM x (by omega))
  · rw [hN 7 (by omega), hN 8 (by omega), hN 9 (by omega), hN 10 (by omega), hN 11 (by omega)]; exact h6.cg (fun x _ _ => hM x (by omega))
  · rw [hM 17 (by omega), c0, hN 22 (by omega), h45]; exact h7
/-- one place of the model's row, one place of the class's coast -/
theorem Rel.set1 {M N : Mem} (h : Rel M N) {a k j : Nat} {v x : Int32} (ha : 48 ≤ a ∧ a < 80) (hR : RCo (mset M a k v) (upd (N 1) j x) 48) (hj : j ≠ 1) : Rel (mset M a k v) (mset N 1 j x) := by
  refine h.now (by rw [mset_self]; exact hR) (fun y hy => mset_ne (by omega)) (fun y hy => mset_ne (by omega)) (by rw [mset_ne (by omega)]) (by rw [mset_ne (by omega)]) (by rw [mset_ne (by omega)]) ?_
  rw [mset_k (fun q => hj q.symm)]
  exact Int.le_refl _
theorem upd_ne {S : Row} {j : Nat} {x : Int32} {k : Nat} (h : k ≠ j) : upd S j x k = S k := by unfold upd; rw [if_neg h]
theorem upd_at (S : Row) (j : Nat) (x : Int32) : upd S j x j = x := by unfold upd; rw [if_pos rfl]
