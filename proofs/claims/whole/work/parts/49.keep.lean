/-! KEEP, BACK -/
theorem tcnt_mono {S : Row} {cs : Nat → Nat} {v : Nat} : ∀ {b a : Nat}, a ≤ b → tcnt S cs v a ≤ tcnt S cs v b := by
  intro b
  induction b with
  | zero =>
    intro a h
    have : a = 0 := by omega
    subst this
    exact Nat.le_refl _
  | succ b ih =>
    intro a h
    by_cases q : a = b + 1
    · subst q
      exact Nat.le_refl _
    · have := ih (show a ≤ b by omega)
      rw [tcnt]
      exact Nat.le_trans this (Nat.le_add_right _ _)
theorem tcnt_lt {S : Row} {cs : Nat → Nat} {k nc : Nat} (h : k < nc) : tcnt S cs (vyOf S (cs k)) k + 1 ≤ tcnt S cs (vyOf S (cs k)) nc := by
  have := tcnt_mono (S := S) (cs := cs) (v := vyOf S (cs k)) (show k + 1 ≤ nc by omega)
  rw [tcnt, if_pos rfl] at this
  exact this
theorem RCo.mv {M M' : Mem} {S S' : Row} {a b n : Nat} (h : RCo M S a) (hn : M a 9 = nI n) (hn24 : n ≤ 24) (hS : ∀ j, j < 3300 → S' j = S j) (h9 : ∀ k, 9 ≤ k → k ≤ 12 → M' b k = M a k) (hmk : ∀ i, i < n → ∀ k, k < 7 → M' (b + 8 + i) k = M (a + 8 + i) k) (h2 : ∀ k, k < 15 → M' (b + 2) k = M (a + 2) k) (h3 : ∀ k, k < 3 → M' (b + 3) k = M (a + 3) k) (h4 : ∀ k, k < 20 → M' (b + 4) k = M (a + 4) k) (h5 : ∀ k, k < 3 → M' (b + 5) k = M (a + 5) k) (h6 : ∀ k, k < 3 → M' (b + 6) k = M (a + 6) k) (h7 : ∀ k, k < 9 → M' (b + 7) k = M (a + 7) k) (hT : ∀ x, 19 ≤ x → x < 47 → M' x = M x) : RCo M' S' b := by
  obtain ⟨⟨n', p1, p2, nc, cs, p3⟩, ⟨t, p4, p5⟩, ⟨np, p6, p7⟩, p8, p9, p10⟩ := h
  have hn' := p2.1
  have : n' = n := (nI_eq (by omega) (by omega)).mp (p1.symm.trans hn)
  subst this
  have ht := p5.1
  have hp := p7.1
  have p7' := p7.cgS (hS 2 (by omega)) (fun k _ _ => hS k (by omega))
  have p8' := p8.cgS (fun k _ _ => hS k (by omega))
  have p9' := p9.cgS (fun k _ _ => hS k (by omega))
  have p3' := p3.cgS (hS 3 (by omega)) (fun k _ _ => hS k (by omega)) (fun i hi => hS _ (by omega))
  refine ⟨⟨n', by rw [h9 9 (by omega) (by omega)]; exact p1, ⟨hn', by rw [hS 0 (by omega)]; exact p2.2.1, fun i hi => ⟨(p2.2.2 i hi).1.cgS (fun k hk => hS _ (by omega)), ?_⟩⟩, nc, cs, ?_⟩, ⟨t, by rw [h9 10 (by omega) (by omega)]; exact p4, (p5.cg (fun j hj => ⟨hT _ (by omega) (by omega), hT _ (by omega) (by omega)⟩)).cgS (hS 1 (by omega)) (fun k _ _ => hS k (by omega))⟩, ⟨np, by rw [h9 11 (by omega) (by omega)]; exact p6, p7'.1, p7'.2.1, fun p hp => ?_⟩, ?_, ?_, by rw [h9 12 (by omega) (by omega), hS 4 (by omega)]; exact p10⟩
  · have eq : MkEq (M (a + 8 + i)) S' i := (p2.2.2 i hi).2.cgS (fun k hk => hS _ (by omega))
    show MkEq (M' (b + 8 + i)) S' i
    unfold MkEq at eq ⊢
    have hm := hmk i hi
    rw [hm 0 (by omega), hm 1 (by omega), hm 2 (by omega), hm 3 (by omega), hm 4 (by omega), hm 5 (by omega), hm 6 (by omega)]
    exact eq
  · obtain ⟨q1, q2, q3, q4, q5, q6⟩ := p3'
    refine ⟨q1, q2, q3, q4, fun v hv => ⟨by rw [h3 v hv]; exact (q5 v hv).1, (q5 v hv).2⟩, fun k hk => ?_⟩
    have ok : MkOk S' (cs k) := (p2.2.2 _ (q3 k hk).1).1.cgS (fun k' hk' => hS _ (by have := (q3 k hk).1; omega))
    have hv := (vy_nI ok).2
    have h5' := (q5 _ hv).2
    have hl := tcnt_lt (S := S') (cs := cs) hk
    rw [h2 _ (by omega)]
    exact q6 k hk
  · have := p7'.2.2 p hp
    unfold PsOk at this ⊢
    rw [h4 p (by omega)]
    exact this
  · intro v hv
    rw [h5 v hv, h6 v hv]
    exact p8' v hv
  · intro v hv
    rw [h7 v hv]
    exact p9' v hv
theorem takeMark {a b : Nat} (hab : b ≠ a) (M : Mem) : ∃ M', f_X2_takeFrom a b M = some (0, M') ∧ (∀ k, k < 7 → M' a k = M b k) ∧ ∀ x, x ≠ a → M' x = M x := by
  unfold f_X2_takeFrom f_X2_takeFrom_b0 f_X2_takeFrom_bc24_1 f_X2_takeFrom_bc48_2
  refine ⟨_, rfl, ?_, ?_⟩
  · intro k hk
    simp only [mset_ne hab]
    obtain rfl | rfl | rfl | rfl | rfl | rfl | rfl : k = 0 ∨ k = 1 ∨ k = 2 ∨ k = 3 ∨ k = 4 ∨ k = 5 ∨ k = 6 := by omega
    all_goals simp [mset]
  · intro x hx
    simp only [mset_ne hx]
theorem mcpy_r (M : Mem) (a t n x j : Nat) : mcpy M a 0 t 0 n x j = if x = t ∧ j < n then M a j else M x j := by
  by_cases h : x = t
  · subst h
    rw [mcpy_at]
    by_cases hj : j < n
    · rw [if_pos (by omega), if_pos ⟨rfl, hj⟩]
      congr 1
      omega
    · rw [if_neg (by omega), if_neg (fun q => hj q.2)]
  · rw [mcpy_ne h, if_neg (fun q => h q.1)]
theorem ixc : ix (0 : Int32) = 0 ∧ ix (3 : Int32) = 3 ∧ ix (9 : Int32) = 9 ∧ ix (15 : Int32) = 15 ∧ ix (20 : Int32) = 20 := by decide
theorem takeCo {a b n : Nat} (hab : (a = 48 ∧ b = 80) ∨ (a = 80 ∧ b = 48)) {M : Mem} (hn : M b 9 = nI n) (hn24 : n ≤ 24) : ∃ M', f_X0_takeFrom a b M = some (0, M') ∧ (∀ k, 9 ≤ k → k ≤ 12 → M' a k = M b k) ∧ (∀ i, i < n → ∀ k, k < 7 → M' (a + 8 + i) k = M (b + 8 + i) k) ∧ (∀ k, k < 15 → M' (a + 2) k = M (b + 2) k) ∧ (∀ k, k < 3 → M' (a + 3) k = M (b + 3) k) ∧ (∀ k, k < 20 → M' (a + 4) k = M (b + 4) k) ∧ (∀ k, k < 3 → M' (a + 5) k = M (b + 5) k) ∧ (∀ k, k < 3 → M' (a + 6) k = M (b + 6) k) ∧ (∀ k, k < 9 → M' (a + 7) k = M (b + 7) k) ∧ ∀ x, (x < a ∨ x = a + 1 ∨ a + 32 ≤ x) → M' x = M x := by
  have ha : a = 48 ∨ a = 80 := by omega
  have hb : b = 48 ∨ b = 80 := by omega
  have key : ∀ (r fuel i : Nat) (M1 : Mem), i + r = n → r < fuel → (∀ j, j < i → ∀ k, k < 7 → M1 (a + 8 + j) k = M (b + 8 + j) k) → (∀ x, (x < a + 8 ∨ a + 8 + i ≤ x) → M1 x = M x) → ∃ M2, f_X0_takeFrom_b2 fuel a b (nI i) M1 = f_X0_takeFrom_b31 a b M2 ∧ (∀ j, j < n → ∀ k, k < 7 → M2 (a + 8 + j) k = M (b + 8 + j) k) ∧ ∀ x, (x < a + 8 ∨ a + 32 ≤ x) → M2 x = M x := by
    intro r
    induction r with
    | zero =>
      intro fuel i M1 hi hf hA hF
      obtain ⟨f, rfl⟩ : ∃ f, fuel = f + 1 := ⟨fuel - 1, by omega⟩
      have : i = n := by omega
      subst this
      rw [f_X0_takeFrom_b2, hF b (by omega), hn, if_pos (nI_le (Nat.le_refl _) (by omega))]
      exact ⟨M1, rfl, hA, fun x hx => hF x (by omega)⟩
    | succ r ih =>
      intro fuel i M1 hi hf hA hF
      obtain ⟨f, rfl⟩ : ∃ f, fuel = f + 1 := ⟨fuel - 1, by omega⟩
      obtain ⟨M2, e, t1, t2⟩ := takeMark (a := a + 8 + i) (b := b + 8 + i) (by omega) M1
      rw [f_X0_takeFrom_b2, hF b (by omega), hn, if_neg (nI_ge (by omega) (by omega)), if_pos (ixb_t (by omega) (by omega)), if_pos (ixb_t (by omega) (by omega)), ix_nI (by omega), (rf_co a ha).1, (rf_co b hb).1, rf_mk ha (by omega), rf_mk hb (by omega), e, Option.bind_some, nI_1]
      refine ih f (i + 1) M2 (by omega) (by omega) (fun j hj k hk => ?_) (fun x hx => ?_)
      · by_cases q : j = i
        · subst q
          rw [t1 k hk, hF _ (by omega)]
        · rw [t2 _ (by omega)]
          exact hA j (by omega) k hk
      · rw [t2 x (by omega)]
        exact hF x (by omega)
  obtain ⟨M2, e, hA, hF⟩ := key n FU 0 M (by omega) (by unfold FU; omega) (fun j hj => by omega) (fun x _ => rfl)
  have e : f_X0_takeFrom_b2 FU a b 0 M = _ := e
  obtain ⟨-, -, -, ra3, ra4, ra5, ra6, ra7, ra8⟩ := rf_co a ha
  obtain ⟨-, -, -, rb3, rb4, rb5, rb6, rb7, rb8⟩ := rf_co b hb
  obtain ⟨i0, i3, i9, i15, i20⟩ := ixc
  rw [f_X0_takeFrom, f_X0_takeFrom_b0, e, f_X0_takeFrom_b31, if_pos (by decide), if_pos (by decide), f_X0_takeFrom_bc63_1, if_pos (by decide), if_pos (by decide), f_X0_takeFrom_bc92_2, if_pos (by decide), if_pos (by decide), f_X0_takeFrom_bc121_3, f_X0_takeFrom_bc145_4, ra3, ra4, ra5, ra6, ra7, ra8, rb3, rb4, rb5, rb6, rb7, rb8, i0, i3, i9, i15, i20]
  refine ⟨_, rfl, ?_⟩
  have hF' : ∀ x k, (x < a + 8 ∨ a + 32 ≤ x) → M2 x k = M x k := fun x k hx => by rw [hF x hx]
  rcases hab with ⟨rfl, rfl⟩ | ⟨rfl, rfl⟩
  · refine ⟨fun k h1 h2 => ?_, fun i hi k hk => ?_, fun k hk => ?_, fun k hk => ?_, fun k hk => ?_, fun k hk => ?_, fun k hk => ?_, fun k hk => ?_, fun x hx => ?_⟩
    · rw [← hF' 80 k (by omega)]
      have h9 : k = 9 ∨ k = 10 ∨ k = 11 ∨ k = 12 := by omega
      rcases h9 with rfl | rfl | rfl | rfl <;> simp [mset, mcpy_r]
    · rw [← hA i hi k hk]
      simp [mset, mcpy_r, show 48 + 8 + i ≠ 48 by omega, show 48 + 8 + i ≠ 50 by omega, show 48 + 8 + i ≠ 51 by omega, show 48 + 8 + i ≠ 52 by omega, show 48 + 8 + i ≠ 53 by omega, show 48 + 8 + i ≠ 54 by omega, show 48 + 8 + i ≠ 55 by omega]
    · rw [← hF' (80 + 2) k (by omega)]
      simp [mset, mcpy_r, hk]
    · rw [← hF' (80 + 3) k (by omega)]
      simp [mset, mcpy_r, hk]
    · rw [← hF' (80 + 4) k (by omega)]
      simp [mset, mcpy_r, hk]
    · rw [← hF' (80 + 5) k (by omega)]
      simp [mset, mcpy_r, hk]
    · rw [← hF' (80 + 6) k (by omega)]
      simp [mset, mcpy_r, hk]
    · rw [← hF' (80 + 7) k (by omega)]
      simp [mset, mcpy_r, hk]
    · funext k
      rw [← hF' x k (by omega)]
      simp [mset, mcpy_r, show x ≠ 48 by omega, show x ≠ 50 by omega, show x ≠ 51 by omega, show x ≠ 52 by omega, show x ≠ 53 by omega, show x ≠ 54 by omega, show x ≠ 55 by omega]
  · refine ⟨fun k h1 h2 => ?_, fun i hi k hk => ?_, fun k hk => ?_, fun k hk => ?_, fun k hk => ?_, fun k hk => ?_, fun k hk => ?_, fun k hk => ?_, fun x hx => ?_⟩
    · rw [← hF' 48 k (by omega)]
      have h9 : k = 9 ∨ k = 10 ∨ k = 11 ∨ k = 12 := by omega
      rcases h9 with rfl | rfl | rfl | rfl <;> simp [mset, mcpy_r]
    · rw [← hA i hi k hk]
      simp [mset, mcpy_r, show 80 + 8 + i ≠ 80 by omega, show 80 + 8 + i ≠ 82 by omega, show 80 + 8 + i ≠ 83 by omega, show 80 + 8 + i ≠ 84 by omega, show 80 + 8 + i ≠ 85 by omega, show 80 + 8 + i ≠ 86 by omega, show 80 + 8 + i ≠ 87 by omega]
    · rw [← hF' (48 + 2) k (by omega)]
      simp [mset, mcpy_r, hk]
    · rw [← hF' (48 + 3) k (by omega)]
      simp [mset, mcpy_r, hk]
    · rw [← hF' (48 + 4) k (by omega)]
      simp [mset, mcpy_r, hk]
    · rw [← hF' (48 + 5) k (by omega)]
      simp [mset, mcpy_r, hk]
    · rw [← hF' (48 + 6) k (by omega)]
      simp [mset, mcpy_r, hk]
    · rw [← hF' (48 + 7) k (by omega)]
      simp [mset, mcpy_r, hk]
    · funext k
      rw [← hF' x k (by omega)]
      simp [mset, mcpy_r, show x ≠ 80 by omega, show x ≠ 82 by omega, show x ≠ 83 by omega, show x ≠ 84 by omega, show x ≠ 85 by omega, show x ≠ 86 by omega, show x ≠ 87 by omega]
theorem setAside_eq {a b : Nat} (hab : a ≠ b) (N : Mem) : ∃ N', f_X10_setAside a b N = some (0, N') ∧ (∀ j, j < 3300 → N' b j = N a j) ∧ ∀ x, x ≠ b → N' x = N x := by
  have key : ∀ (r fuel i : Nat) (N1 : Mem), i + r = 3300 → r < fuel → (∀ j, j < i → N1 b j = N a j) → (∀ x, x ≠ b → N1 x = N x) → ∃ N', f_X10_setAside_b2 fuel a b (nI i) N1 = some (0, N') ∧ (∀ j, j < 3300 → N' b j = N a j) ∧ ∀ x, x ≠ b → N' x = N x := by
    intro r
    induction r with
    | zero =>
      intro fuel i N1 hi hf hA hF
      obtain ⟨f, rfl⟩ : ∃ f, fuel = f + 1 := ⟨fuel - 1, by omega⟩
      have : i = 3300 := by omega
      subst this
      rw [f_X10_setAside_b2, if_pos (show (3300 : Int32) ≤ nI 3300 by decide)]
      exact ⟨N1, rfl, hA, hF⟩
    | succ r ih =>
      intro fuel i N1 hi hf hA hF
      obtain ⟨f, rfl⟩ : ∃ f, fuel = f + 1 := ⟨fuel - 1, by omega⟩
      rw [f_X10_setAside_b2, if_neg (show ¬ (3300 : Int32) ≤ nI i from nI_ge (a := i) (b := 3300) (by omega) (by omega)), if_pos (ixb_t (by omega) (by omega)), if_pos (ixb_t (by omega) (by omega)), ix_nI (by omega), nI_1]
      refine ih f (i + 1) _ (by omega) (by omega) (fun j hj => ?_) (fun x hx => ?_)
      · rw [mset_self]
        by_cases q : j = i
        · subst q
          rw [upd_at, hF a hab]
        · rw [upd_ne q]
          exact hA j (by omega)
      · rw [mset_ne hx]
        exact hF x hx
  exact key 3300 FU 0 N (by omega) (by unfold FU; omega) (fun j hj => by omega) (fun x _ => rfl)
theorem Rel.n0 {M N : Mem} (h : Rel M N) : M 48 9 = N 1 0 := by
  obtain ⟨n, e, m, -⟩ := h.1.1
  exact e.trans m.2.1.symm
theorem q_keep {M N : Mem} (h : Rel M N) : Eqv (f_X9_keep M) (f_X10_keep N) := by
  obtain ⟨n, hn, hm, -⟩ := h.1.1
  have hn24 := hm.1
  obtain ⟨M', e1, a9, am, a2, a3, a4, a5, a6, a7, aF⟩ := takeCo (Or.inr ⟨rfl, rfl⟩) hn hn24
  obtain ⟨N', e2, b1, b2⟩ := setAside_eq (a := 1) (b := 2) (by omega) (mset N 0 3 1)
  unfold f_X9_keep f_X9_keep_b0 f_X10_keep f_X10_keep_b0
  rw [e1, e2, Option.bind_some, Option.bind_some]
  have c : ∀ x, x ≠ 0 → (x < 80 ∨ x = 81 ∨ 112 ≤ x) → mset M' 0 11 1 x = M x := fun x h1 h2 => by rw [mset_ne h1]; exact aF x h2
  have c0 : ∀ k, k ≠ 11 → mset M' 0 11 1 0 k = M 0 k := fun k hk => by rw [mset_k hk, aF 0 (by omega)]
  have d : ∀ x, x ≠ 0 → x ≠ 2 → N' x = N x := fun x h1 h2 => by rw [b2 x h2, mset_ne h1]
  have d0 : ∀ k, k ≠ 3 → N' 0 k = N 0 k := fun k hk => by rw [b2 0 (by omega), mset_k hk]
  have R : Rel (mset M' 0 11 1) N' := by
    obtain ⟨h1, -, h4, h5, h6, h7⟩ := h
    have b1' : ∀ j, j < 3300 → N' 2 j = N 1 j := fun j hj => by rw [b1 j hj, mset_ne (by omega)]
    refine ⟨?_, ⟨by rw [mset_at, b2 0 (by omega), mset_at], Or.inr ⟨by rw [b2 0 (by omega), mset_at], ?_, ?_⟩⟩, ?_, ?_, ?_, ?_⟩
    · rw [d 1 (by omega) (by omega)]
      exact h1.cg (c _ (by omega) (by omega)) (fun x _ _ => c x (by omega) (by omega)) (fun x _ _ => c x (by omega) (by omega))
    · refine h1.mv (b := 80) hn hn24 b1' (fun k p q => ?_) (fun i hi k hk => ?_) (fun k hk => ?_) (fun k hk => ?_) (fun k hk => ?_) (fun k hk => ?_) (fun k hk => ?_) (fun k hk => ?_) (fun x _ _ => c x (by omega) (by omega))
      · rw [mset_ne (by omega)]; exact a9 k p q
      · rw [mset_ne (by omega)]; exact am i hi k hk
      · rw [mset_ne (by omega)]; exact a2 k hk
      · rw [mset_ne (by omega)]; exact a3 k hk
      · rw [mset_ne (by omega)]; exact a4 k hk
      · rw [mset_ne (by omega)]; exact a5 k hk
      · rw [mset_ne (by omega)]; exact a6 k hk
      · rw [mset_ne (by omega)]; exact a7 k hk
    · rw [b1' 1 (by omega), d 1 (by omega) (by omega)]
      exact Int.le_refl _
    · rw [c 2 (by omega) (by omega), c 1 (by omega) (by omega), d 12 (by omega) (by omega), d0 13 (by omega)]; exact h4
    · rw [d 4 (by omega) (by omega), d 5 (by omega) (by omega), d 6 (by omega) (by omega)]; exact h5.cg (fun x _ _ => c x (by omega) (by omega))
    · rw [d 7 (by omega) (by omega), d 8 (by omega) (by omega), d 9 (by omega) (by omega), d 10 (by omega) (by omega), d 11 (by omega) (by omega)]; exact h6.cg (fun x _ _ => c x (by omega) (by omega))
    · rw [c 17 (by omega) (by omega), c0 10 (by omega), d 22 (by omega) (by omega), d0 45 (by omega)]; exact h7
  exact ⟨_, _, N', rfl, by rw [R.n0], R⟩
theorem q_back {M N : Mem} (h : Rel M N) : Eqv (f_X9_back M) (f_X10_back N) := by
  unfold f_X9_back f_X9_back_b0 f_X10_back f_X10_back_b0
  have hI := h.2.1
  rw [hI.1]
  by_cases q : N 0 3 = 0
  · rw [if_pos q, if_pos q]
    exact ⟨_, M, N, rfl, rfl, h⟩
  · rw [if_neg q, if_neg q]
    rcases hI.2 with z | ⟨z, hR, hle⟩
    · exact absurd z q
    obtain ⟨n, hn, hm, -⟩ := hR.1
    have hn24 := hm.1
    obtain ⟨M', e1, a9, am, a2, a3, a4, a5, a6, a7, aF⟩ := takeCo (Or.inl ⟨rfl, rfl⟩) hn hn24
    obtain ⟨N', e2, b1, b2⟩ := setAside_eq (a := 2) (b := 1) (by omega) N
    rw [e1, e2, Option.bind_some, Option.bind_some]
    have R : Rel M' N' := by
      obtain ⟨h1, ⟨hI1, -⟩, h4, h5, h6, h7⟩ := h
      refine ⟨hR.mv hn hn24 b1 a9 am a2 a3 a4 a5 a6 a7 (fun x _ _ => aF x (by omega)), ⟨by rw [aF 0 (by omega), b2 0 (by omega)]; exact hI1, Or.inr ⟨by rw [b2 0 (by omega)]; exact z, ?_, ?_⟩⟩, ?_, ?_, ?_, ?_⟩
      · rw [b2 2 (by omega)]
        exact hR.cg (aF _ (by omega)) (fun x _ _ => aF x (by omega)) (fun x _ _ => aF x (by omega))
      · rw [b1 1 (by omega), b2 2 (by omega)]
        exact Int.le_refl _
      · rw [aF 2 (by omega), aF 1 (by omega), b2 12 (by omega), b2 0 (by omega)]; exact h4
      · rw [b2 4 (by omega), b2 5 (by omega), b2 6 (by omega)]; exact h5.cg (fun x _ _ => aF x (by omega))
      · rw [b2 7 (by omega), b2 8 (by omega), b2 9 (by omega), b2 10 (by omega), b2 11 (by omega)]; exact h6.cg (fun x _ _ => aF x (by omega))
      · rw [aF 17 (by omega), aF 0 (by omega), b2 22 (by omega), b2 0 (by omega)]; exact h7
    exact ⟨M' 48 9, M', N', rfl, by rw [R.n0], R⟩
