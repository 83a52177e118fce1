/-! CHOOSE, what is told of a voyage -/
theorem tsel {S : Row} {cs : Nat → Nat} {v : Nat} : ∀ {nc p : Nat}, p < tcnt S cs v nc → ∃ k, k < nc ∧ vyOf S (cs k) = v ∧ tcnt S cs v k = p := by
  intro nc
  induction nc with
  | zero => intro p hp; exact absurd hp (Nat.not_lt_zero _)
  | succ nc ih =>
    intro p hp
    by_cases q : p < tcnt S cs v nc
    · obtain ⟨k, k1, k2, k3⟩ := ih q
      exact ⟨k, by omega, k2, k3⟩
    · rw [tcnt] at hp
      by_cases z : vyOf S (cs nc) = v
      · rw [if_pos z] at hp
        exact ⟨nc, by omega, z, by omega⟩
      · rw [if_neg z] at hp
        omega
theorem tcg {S S' : Row} {cs cs' : Nat → Nat} {v : Nat} : ∀ k, (∀ j, j < k → vyOf S' (cs' j) = vyOf S (cs j)) → tcnt S' cs' v k = tcnt S cs v k := by
  intro k
  induction k with
  | zero => intro _; rfl
  | succ k ih =>
    intro h
    rw [tcnt, tcnt, ih (fun j hj => h j (by omega)), h k (by omega)]
theorem toldOf_eq {S : Row} {n nc v : Nat} {cs : Nat → Nat} (hn : n ≤ 24) (ok : ∀ i, i < n → MkOk S i) (h3 : S 3 = nI nc) (hnc : nc ≤ 15) (hk : ∀ k, k < nc → cs k < n ∧ S (30 + k) = nI (cs k)) (hv : v < 3) {N : Mem} (hN : N 1 = S) : f_X10_toldOf (nI v) N = some (nI (tcnt S cs v nc), N) := by
  have key : ∀ (r fuel k : Nat), k + r = nc → r < fuel → f_X10_toldOf_b4 fuel (nI v) (nI (tcnt S cs v k)) (nI k) N = some (nI (tcnt S cs v nc), N) := by
    intro r
    induction r with
    | zero =>
      intro fuel k hkr hf
      obtain ⟨f, rfl⟩ : ∃ f, fuel = f + 1 := ⟨fuel - 1, by omega⟩
      have : k = nc := by omega
      subst this
      rw [f_X10_toldOf_b4, hN, h3, if_pos (nI_le (Nat.le_refl _) (by omega))]
    | succ r ih =>
      intro fuel k hkr hf
      obtain ⟨f, rfl⟩ : ∃ f, fuel = f + 1 := ⟨fuel - 1, by omega⟩
      obtain ⟨c1, c2⟩ := hk k (by omega)
      obtain ⟨v1, v2⟩ := vy_nI (ok _ c1)
      have := ih f (k + 1) (by omega) (by omega)
      rw [tcnt] at this
      rw [f_X10_toldOf_b4, hN, h3, if_neg (nI_ge (by omega) (by omega)), show (30 : Int32) + nI k = nI (30 + k) from by rw [i_lit, nI_add], if_pos (ixb_t (show 30 + k < 3300 by omega) (by omega)), ix_nI (by omega), c2, fd1 (by omega), hN, v1]
      simp only [Option.bind_some]
      by_cases z : vyOf S (cs k) = v
      · rw [if_pos z] at this
        rw [if_pos (by rw [z]), f_X10_toldOf_b38, nI_1, nI_1]
        exact this
      · rw [if_neg z] at this
        rw [if_neg (nI_ne (by omega) (by omega) z), f_X10_toldOf_b38, nI_1, show nI (tcnt S cs v k) + 0 = nI (tcnt S cs v k + 0) from Int32.add_zero _]
        exact this
  exact key nc FU 0 (by omega) (by unfold FU; omega)
theorem toldMark_eq {S : Row} {n nc v k0 : Nat} {cs : Nat → Nat} (hn : n ≤ 24) (ok : ∀ i, i < n → MkOk S i) (h3 : S 3 = nI nc) (hnc : nc ≤ 15) (hk : ∀ k, k < nc → cs k < n ∧ S (30 + k) = nI (cs k)) (hv : v < 3) (hk0 : k0 < nc) (hvk : vyOf S (cs k0) = v) {N : Mem} (hN : N 1 = S) : f_X10_toldMark (nI v) (nI (tcnt S cs v k0)) N = some (nI (cs k0), N) := by
  have key : ∀ (r fuel k : Nat), k + r = k0 → r < fuel → f_X10_toldMark_b5 fuel (nI v) (nI (tcnt S cs v k0 - tcnt S cs v k)) (nI k) N = some (nI (cs k0), N) := by
    intro r
    induction r with
    | zero =>
      intro fuel k hkr hf
      obtain ⟨f, rfl⟩ : ∃ f, fuel = f + 1 := ⟨fuel - 1, by omega⟩
      have : k = k0 := by omega
      subst this
      obtain ⟨c1, c2⟩ := hk k hk0
      obtain ⟨v1, v2⟩ := vy_nI (ok _ c1)
      rw [f_X10_toldMark_b5, hN, h3, if_neg (nI_ge (by omega) (by omega)), show (30 : Int32) + nI k = nI (30 + k) from by rw [i_lit, nI_add], if_pos (ixb_t (show 30 + k < 3300 by omega) (by omega)), ix_nI (by omega), c2, fd1 (by omega), hN, v1, Nat.sub_self]
      simp only [Option.bind_some]
      rw [if_pos (by rw [hvk]), if_pos (show nI 0 = 0 from rfl), f_X10_toldMark_b39, show (30 : Int32) + nI k = nI (30 + k) from by rw [i_lit, nI_add], if_pos (ixb_t (show 30 + k < 3300 by omega) (by omega)), ix_nI (by omega), hN, c2]
    | succ r ih =>
      intro fuel k hkr hf
      obtain ⟨f, rfl⟩ : ∃ f, fuel = f + 1 := ⟨fuel - 1, by omega⟩
      obtain ⟨c1, c2⟩ := hk k (by omega)
      obtain ⟨v1, v2⟩ := vy_nI (ok _ c1)
      have := ih f (k + 1) (by omega) (by omega)
      have hle := tcnt_mono (S := S) (cs := cs) (v := v) (show k + 1 ≤ k0 by omega)
      rw [tcnt] at this hle
      rw [f_X10_toldMark_b5, hN, h3, if_neg (nI_ge (by omega) (by omega)), show (30 : Int32) + nI k = nI (30 + k) from by rw [i_lit, nI_add], if_pos (ixb_t (show 30 + k < 3300 by omega) (by omega)), ix_nI (by omega), c2, fd1 (by omega), hN, v1]
      simp only [Option.bind_some]
      have hb : ∀ j, tcnt S cs v j ≤ j := by
        intro j
        induction j with
        | zero => exact Nat.le_refl _
        | succ j ihj => rw [tcnt]; split <;> omega
      have hb0 := hb k0
      by_cases z : vyOf S (cs k) = v
      · rw [if_pos z] at this hle
        rw [if_pos (by rw [z]), if_neg (show ¬ nI (tcnt S cs v k0 - tcnt S cs v k) = 0 from nI_ne (b := 0) (by omega) (by omega) (by omega)), f_X10_toldMark_b53, nI_1, show nI (tcnt S cs v k0 - tcnt S cs v k) + (-1 : Int32) = nI (tcnt S cs v k0 - (tcnt S cs v k + 1)) from by
          rw [← Int32.sub_eq_add_neg, nI_sub1 (by omega)]
          congr 1]
        exact this
      · rw [if_neg z] at this
        rw [if_neg (nI_ne (by omega) (by omega) z), f_X10_toldMark_b53, nI_1]
        exact this
  have := key k0 FU 0 (by omega) (by unfold FU; omega)
  rw [show tcnt S cs v 0 = 0 from rfl, Nat.sub_zero] at this
  exact this
theorem told_S {ch ct S : Row} {n nc : Nat} {cs : Nat → Nat} (hn : n ≤ 24) (ok : ∀ i, i < n → MkOk S i) (hc : RCho ch ct S n nc cs) {v : Nat} (hv : v < 3) : ∃ c, c ≤ 5 ∧ ct v = nI c ∧ (∀ N : Mem, N 1 = S → f_X10_toldOf (nI v) N = some (nI c, N)) ∧ ∀ p, p < c → ∃ g, g < n ∧ ch (5 * v + p) = nI g ∧ ∀ N : Mem, N 1 = S → f_X10_toldMark (nI v) (nI p) N = some (nI g, N) := by
  obtain ⟨h1, h2, h3, h4, h5, h6⟩ := hc
  refine ⟨tcnt S cs v nc, (h5 v hv).2, (h5 v hv).1, fun N hN => toldOf_eq hn ok h1 h2 h3 hv hN, fun p hp => ?_⟩
  obtain ⟨k, k1, k2, k3⟩ := tsel hp
  refine ⟨cs k, (h3 k k1).1, ?_, fun N hN => ?_⟩
  · have := h6 k k1
    rw [k2, k3] at this
    exact this
  · have := toldMark_eq (N := N) hn ok h1 h2 h3 hv k1 k2 hN
    rw [k3] at this
    exact this
theorem isCho_eq {M : Mem} {S : Row} {n t i nc : Nat} {cs : Nat → Nat} (hv : RV M S 48 n t) (hc : RCho (M (48 + 2)) (M (48 + 3)) S n nc cs) (hi : i < n) : ∃ r, f_X0_isChosen 48 (nI i) M = some (r, M) ∧ (r = 0 ↔ ¬ ∃ k, k < nc ∧ cs k = i) := by
  have hn := hv.sv.2.1
  obtain ⟨ok, eq⟩ := hv.2.2.1.2.2 i hi
  obtain ⟨v1, v2⟩ := vy_nI ok
  have ev : M (48 + 8 + i) 1 = nI (vyOf S i) := eq.2.1.trans v1
  obtain ⟨h1, h2, h3, h4, h5, h6⟩ := hc
  obtain ⟨c1, c2⟩ := h5 _ v2
  obtain ⟨r0, -, -, r3, r4, -⟩ := rf_co 48 (Or.inl rfl)
  have key : ∀ (r fuel p : Nat), p + r = tcnt S cs (vyOf S i) nc → r < fuel → (¬ ∃ k, k < nc ∧ cs k = i ∧ tcnt S cs (vyOf S i) k < p) → ∃ z, f_X0_isChosen_b12 fuel 48 (nI i) (nI (vyOf S i)) (nI p) M = some (z, M) ∧ (z = 0 ↔ ¬ ∃ k, k < nc ∧ cs k = i) := by
    intro r
    induction r with
    | zero =>
      intro fuel p hp hf hno
      obtain ⟨f, rfl⟩ : ∃ f, fuel = f + 1 := ⟨fuel - 1, by omega⟩
      have : p = tcnt S cs (vyOf S i) nc := by omega
      rw [f_X0_isChosen_b12, if_pos (ixb_t v2 (by omega)), ix_nI (by omega), r4, c1, if_pos (nI_le (by omega) (by omega))]
      refine ⟨0, rfl, ⟨fun _ => ?_, fun _ => rfl⟩⟩
      rintro ⟨k, k1, k2⟩
      refine hno ⟨k, k1, k2, ?_⟩
      have := tcnt_lt (S := S) (cs := cs) k1
      rw [k2] at this
      omega
    | succ r ih =>
      intro fuel p hp hf hno
      obtain ⟨f, rfl⟩ : ∃ f, fuel = f + 1 := ⟨fuel - 1, by omega⟩
      obtain ⟨k, k1, k2, k3⟩ := tsel (show p < tcnt S cs (vyOf S i) nc by omega)
      have e6 := h6 k k1
      rw [k2, k3] at e6
      have hck := (h3 k k1).1
      rw [f_X0_isChosen_b12, if_pos (ixb_t v2 (by omega)), ix_nI (show vyOf S i < 2 ^ 31 by omega), r4, c1, if_neg (nI_ge (by omega) (by omega)), show nI (vyOf S i) * (5 : Int32) + nI p = nI (5 * vyOf S i + p) from by rw [i_lit, nI_mul, nI_add, Nat.mul_comm], if_pos (ixb_t (show 5 * vyOf S i + p < 15 by omega) (by omega)), ix_nI (by omega), r3, e6]
      by_cases z : cs k = i
      · rw [if_pos (by rw [z])]
        exact ⟨1, rfl, ⟨fun y => absurd y (by decide), fun y => absurd ⟨k, k1, z⟩ y⟩⟩
      · rw [if_neg (nI_ne (by omega) (by omega) z), nI_1]
        refine ih f (p + 1) (by omega) (by omega) ?_
        rintro ⟨k', p1, p2, p3⟩
        by_cases y : tcnt S cs (vyOf S i) k' < p
        · exact hno ⟨k', p1, p2, y⟩
        · have e6' := h6 k' p1
          rw [p2, show tcnt S cs (vyOf S i) k' = p from by omega, e6] at e6'
          exact z ((nI_eq (by omega) (by omega)).mp e6')
  rw [f_X0_isChosen, f_X0_isChosen_b0, if_pos (ixb_t (show i < 24 by omega) (by omega)), ix_nI (by omega), r0, rf_mk (Or.inl rfl) (by omega), ev]
  exact key _ FU 0 (by rw [Nat.zero_add]) (by unfold FU; omega) (by rintro ⟨k, -, -, y⟩; omega)
theorem RCo.cho {M M' : Mem} {S S' : Row} (h : RCo M S 48) (cM : ∀ x, x ≠ 50 → x ≠ 51 → M' x = M x) (cS : ∀ k, k ≠ 3 → (k < 30 ∨ 45 ≤ k) → S' k = S k) (hc : ∀ n, M 48 9 = nI n → n ≤ 24 → ∃ nc cs, RCho (M' (48 + 2)) (M' (48 + 3)) S' n nc cs) : RCo M' S' 48 := by
  obtain ⟨⟨n, h1, h2, -⟩, ⟨t, h4, h5⟩, ⟨np, h6, h7⟩, h8, h9, h10⟩ := h
  have hn := h2.1
  have htt := h5.1
  refine ⟨⟨n, (by rw [cM 48 (by omega) (by omega)]; exact h1), ((h2.cg (fun i hi => cM _ (by omega) (by omega))).cgS (cS _ (by omega) (by omega)) (fun k _ _ => cS _ (by omega) (by omega))), hc n h1 hn⟩, ⟨t, (by rw [cM 48 (by omega) (by omega)]; exact h4), ((h5.cg (fun j hj => ⟨cM _ (by omega) (by omega), cM _ (by omega) (by omega)⟩)).cgS (cS _ (by omega) (by omega)) (fun k _ _ => cS _ (by omega) (by omega)))⟩, ⟨np, (by rw [cM 48 (by omega) (by omega)]; exact h6), (by rw [cM (48 + 4) (by omega) (by omega)]; exact h7.cgS (cS _ (by omega) (by omega)) (fun k _ _ => cS _ (by omega) (by omega)))⟩, (by rw [cM (48 + 5) (by omega) (by omega), cM (48 + 6) (by omega) (by omega)]; exact h8.cgS (fun k _ _ => cS _ (by omega) (by omega))), (by rw [cM (48 + 7) (by omega) (by omega)]; exact h9.cgS (fun k _ _ => cS _ (by omega) (by omega))), (by rw [cM 48 (by omega) (by omega), cS 4 (by omega) (by omega)]; exact h10)⟩
theorem q_choose {M N : Mem} (h : Rel M N) (x1 : Int32) : Eqv (f_X9_choose x1 M) (f_X10_choose x1 N) := by
  obtain ⟨n, t, hv⟩ := RV.of (Or.inl rfl) h.1
  have hs := hv.sv
  have hn := hs.2.1
  obtain ⟨⟨n', p1, p2, nc, cs, hc⟩, -⟩ := id h.1
  have hnn : n' = n := (nI_eq (by have := p2.1; omega) (by omega)).mp (p1.symm.trans hv.2.1)
  subst hnn
  unfold f_X9_choose f_X9_choose_b0 f_X10_choose f_X10_choose_b0
  rw [hv.2.1, isBelowN x1 (nI n') n' (nI_toInt (by omega)), isMark_eq hs.1 hn]
  simp only [Option.bind_some, b2i_eq0]
  by_cases hx : 0 ≤ x1.toInt ∧ x1.toInt < (n' : Int)
  rotate_left
  · rw [if_pos hx, if_pos hx]
    exact ⟨_, M, N, rfl, rfl, h⟩
  rw [if_neg (nn hx), if_neg (nn hx)]
  obtain ⟨i, hi, rfl⟩ := i_of hx.1 hx.2
  obtain ⟨ok, eq⟩ := hv.2.2.1.2.2 i hi
  obtain ⟨v1, v2⟩ := vy_nI ok
  have ev : M (48 + 8 + i) 1 = nI (vyOf (N 1) i) := eq.2.1.trans v1
  obtain ⟨r, e1, e2⟩ := isCho_eq hv hc hi
  obtain ⟨h1, h2, h3, h4, h5, h6⟩ := id hc
  have key : ∀ (r fuel k : Nat), k + r = nc → r < fuel → (∀ k', k' < k → cs k' ≠ i) → f_X10_choose_b13 fuel (nI i) (nI k) N = (if (∃ k, k < nc ∧ cs k = i) then f_X10_choose_b36 N else f_X10_choose_b46 (nI i) N) := by
    intro r
    induction r with
    | zero =>
      intro fuel k hk hf hno
      obtain ⟨f, rfl⟩ : ∃ f, fuel = f + 1 := ⟨fuel - 1, by omega⟩
      have : k = nc := by omega
      subst this
      rw [f_X10_choose_b13, h1, if_pos (nI_le (Nat.le_refl _) (by omega)), if_neg (by rintro ⟨k', a, b⟩; exact hno k' a b)]
    | succ r ih =>
      intro fuel k hk hf hno
      obtain ⟨f, rfl⟩ : ∃ f, fuel = f + 1 := ⟨fuel - 1, by omega⟩
      obtain ⟨c1, c2⟩ := h3 k (by omega)
      rw [f_X10_choose_b13, h1, if_neg (nI_ge (by omega) (by omega)), show (30 : Int32) + nI k = nI (30 + k) from by rw [i_lit, nI_add], if_pos (ixb_t (show 30 + k < 3300 by omega) (by omega)), ix_nI (by omega), c2]
      by_cases z : cs k = i
      · rw [if_pos (by rw [z]), if_pos ⟨k, by omega, z⟩]
      · rw [if_neg (nI_ne (by omega) (by omega) z), nI_1]
        exact ih f (k + 1) (by omega) (by omega) (fun k' hk' => by
          by_cases y : k' = k
          · subst y; exact z
          · exact hno k' (by omega))
  have eM := key nc FU 0 (by omega) (by unfold FU; omega) (fun k' hk' => by omega)
  have eM : f_X10_choose_b13 FU (nI i) 0 N = _ := eM
  rw [e1, eM]
  simp only [Option.bind_some]
  by_cases z : ∃ k, k < nc ∧ cs k = i
  · rw [if_neg (fun y => (e2.mp y) z), if_pos z, f_X10_choose_b36]
    exact ⟨_, M, N, rfl, rfl, h⟩
  rw [if_pos (e2.mpr z), if_neg z]
  have r1 : rfC 49 i = 48 + 8 + i := rf_mk (co := 48) (Or.inl rfl) (by omega)
  obtain ⟨c1, c2⟩ := h5 _ v2
  have c1 : M 51 (vyOf (N 1) i) = nI (tcnt (N 1) cs (vyOf (N 1) i) nc) := c1
  have iv := ixb_t v2 (show 3 < 2 ^ 31 by omega)
  rw [if_pos (ixb_t (show i < 24 by omega) (by omega)), ix_nI (show i < 2 ^ 31 by omega), r1, ev]
  simp only [iv, if_true]
  rw [ix_nI (show vyOf (N 1) i < 2 ^ 31 by omega), c1, f_X10_choose_b46, fd1 (by omega), v1]
  simp only [Option.bind_some]
  have okk : ∀ i, i < n' → MkOk (N 1) i := hs.2.2.1
  rw [toldOf_eq hn okk h1 h2 h3 v2 rfl]
  simp only [Option.bind_some]
  have hsum := tcnt_sum (S := N 1) (cs := cs) nc (fun j hj => (vy_nI (okk _ (h3 j hj).1)).2)
  have t0 := (h5 0 (by omega)).2
  have t1 := (h5 1 (by omega)).2
  have t2 := (h5 2 (by omega)).2
  by_cases q : tcnt (N 1) cs (vyOf (N 1) i) nc < 5
  rotate_left
  · rw [if_neg (show ¬ nI (tcnt (N 1) cs (vyOf (N 1) i) nc) < (5 : Int32) from nI_nlt (b := 5) (by omega) (by omega)), if_pos (by rw [show tcnt (N 1) cs (vyOf (N 1) i) nc = 5 from by omega]; rfl)]
    exact ⟨_, M, N, rfl, rfl, h⟩
  have hnc : nc < 15 := by
    rcases (show vyOf (N 1) i = 0 ∨ vyOf (N 1) i = 1 ∨ vyOf (N 1) i = 2 by omega) with y | y | y <;> rw [y] at q <;> omega
  have e5 : nI (vyOf (N 1) i) * (5 : Int32) + nI (tcnt (N 1) cs (vyOf (N 1) i) nc) = nI (5 * vyOf (N 1) i + tcnt (N 1) cs (vyOf (N 1) i) nc) := by rw [i_lit, nI_mul, nI_add, Nat.mul_comm]
  rw [if_pos (show nI (tcnt (N 1) cs (vyOf (N 1) i) nc) < (5 : Int32) from nI_lt (b := 5) q (by omega)), if_neg (show ¬ nI (tcnt (N 1) cs (vyOf (N 1) i) nc) = (5 : Int32) from nI_ne (b := 5) (by omega) (by omega) (by omega)), e5, if_pos (ixb_t (show 5 * vyOf (N 1) i + tcnt (N 1) cs (vyOf (N 1) i) nc < 15 by omega) (by omega)), ix_nI (show 5 * vyOf (N 1) i + tcnt (N 1) cs (vyOf (N 1) i) nc < 2 ^ 31 by omega), h1, show (30 : Int32) + nI nc = nI (30 + nc) from by rw [i_lit, nI_add], if_pos (ixb_t (show 30 + nc < 3300 by omega) (by omega)), ix_nI (show 30 + nc < 2 ^ 31 by omega), f_X9_choose_bc94_1, if_pos iv, if_pos iv, ix_nI (show vyOf (N 1) i < 2 ^ 31 by omega), mset_at, f_X10_choose_bc90_1, mset_k (show 3 ≠ 30 + nc by omega), h1, nI_1, mset_ne (show 51 ≠ 50 by omega), c1, nI_1]
  generalize hM' : mset (mset M 50 (5 * vyOf (N 1) i + tcnt (N 1) cs (vyOf (N 1) i) nc) (nI i)) 51 (vyOf (N 1) i) (nI (tcnt (N 1) cs (vyOf (N 1) i) nc + 1)) = M'
  generalize hN' : mset (mset N 1 (30 + nc) (nI i)) 1 3 (nI (nc + 1)) = N'
  have cM : ∀ x, x ≠ 50 → x ≠ 51 → M' x = M x := fun x y1 y2 => by rw [← hM', mset_ne y2, mset_ne y1]
  have cS : ∀ k, k ≠ 3 → k ≠ 30 + nc → N' 1 k = N 1 k := fun k y1 y2 => by rw [← hN', mset_k y1, mset_k y2]
  have cN : ∀ x, x ≠ 1 → N' x = N x := fun x y => by rw [← hN', mset_ne y, mset_ne y]
  have s3 : N' 1 3 = nI (nc + 1) := by rw [← hN', mset_at]
  have s30 : N' 1 (30 + nc) = nI i := by rw [← hN', mset_k (by omega), mset_at]
  have m51 : ∀ v, M' 51 v = if v = vyOf (N 1) i then nI (tcnt (N 1) cs (vyOf (N 1) i) nc + 1) else M 51 v := fun v => by
    rw [← hM']
    by_cases y : v = vyOf (N 1) i
    · rw [if_pos y, y, mset_at]
    · rw [if_neg y, mset_k y, mset_ne (by omega)]
  have m50 : ∀ k, M' 50 k = if k = 5 * vyOf (N 1) i + tcnt (N 1) cs (vyOf (N 1) i) nc then nI i else M 50 k := fun k => by
    rw [← hM', mset_ne (by omega)]
    by_cases y : k = 5 * vyOf (N 1) i + tcnt (N 1) cs (vyOf (N 1) i) nc
    · rw [if_pos y, y, mset_at]
    · rw [if_neg y, mset_k y]
  let cs' : Nat → Nat := fun k => if k = nc then i else cs k
  have cs1 : ∀ k, k < nc → cs' k = cs k := fun k hk => if_neg (by omega)
  have cs2 : cs' nc = i := if_pos rfl
  have vy : ∀ j, vyOf (N' 1) j = vyOf (N 1) j ∨ 24 ≤ j := fun j => by
    by_cases y : j < 24
    · left; unfold vyOf; rw [cS _ (by omega) (by omega)]
    · right; omega
  have vy1 : ∀ k, k < nc → vyOf (N' 1) (cs' k) = vyOf (N 1) (cs k) := fun k hk => by
    rw [cs1 k hk]
    have := (h3 k hk).1
    rcases vy (cs k) with y | y
    · exact y
    · omega
  have vy2 : vyOf (N' 1) i = vyOf (N 1) i := by
    rcases vy i with y | y
    · exact y
    · omega
  have tc : ∀ v k, k ≤ nc → tcnt (N' 1) cs' v k = tcnt (N 1) cs v k := fun v k hk => tcg k (fun j hj => vy1 j (by omega))
  have tcS : ∀ v, tcnt (N' 1) cs' v (nc + 1) = tcnt (N 1) cs v nc + (if vyOf (N 1) i = v then 1 else 0) := fun v => by
    rw [tcnt, tc v nc (Nat.le_refl _), cs2, vy2]
  have okk' : ∀ j, j < n' → MkOk (N' 1) j := fun j hj => (okk j hj).cgS (fun k hk => cS _ (by omega) (by omega))
  have hk' : ∀ k, k < nc + 1 → cs' k < n' ∧ N' 1 (30 + k) = nI (cs' k) := fun k hk => by
    by_cases y : k = nc
    · subst y; rw [cs2]; exact ⟨hi, s30⟩
    · rw [cs1 k (by omega), cS _ (by omega) (by omega)]; exact h3 k (by omega)
  have R : Rel M' N' := by
    refine h.now ?_ (fun y hy => cM y (by omega) (by omega)) (fun y hy => cN y (by omega)) (by rw [cN 0 (by omega)]) (by rw [cN 0 (by omega)]) (by rw [cN 0 (by omega)]) (by rw [cS 1 (by omega) (by omega)]; exact Int.le_refl _)
    refine h.1.cho cM (fun k y1 y2 => cS k y1 (by omega)) (fun n'' e'' l'' => ?_)
    have : n'' = n' := (nI_eq (by omega) (by omega)).mp (e''.symm.trans hv.2.1)
    subst this
    refine ⟨nc + 1, cs', s3, by omega, hk', fun k k' a b c => ?_, fun v hv3 => ?_, fun k hk => ?_⟩
    · by_cases y : k = nc
      · by_cases y' : k' = nc
        · omega
        · rw [y, cs2, cs1 k' (by omega)] at c
          exact absurd ⟨k', by omega, c.symm⟩ z
      · by_cases y' : k' = nc
        · rw [y', cs2, cs1 k (by omega)] at c
          exact absurd ⟨k, by omega, c⟩ z
        · rw [cs1 k (by omega), cs1 k' (by omega)] at c
          exact h4 k k' (by omega) (by omega) c
    · show M' 51 v = _ ∧ _
      rw [m51, tcS]
      by_cases y : v = vyOf (N 1) i
      · rw [if_pos y, if_pos y.symm, y]
        exact ⟨rfl, by omega⟩
      · rw [if_neg y, if_neg (fun w => y w.symm)]
        exact h5 v hv3
    · show M' 50 _ = _
      rw [m50]
      by_cases y : k = nc
      · subst y
        rw [cs2, vy2, tc _ k (Nat.le_refl _), if_pos rfl]
      · have hk2 : k < nc := by omega
        have hl := tcnt_lt (S := N 1) (cs := cs) hk2
        have hv3 := (vy_nI (okk _ (h3 k hk2).1)).2
        have h55 := (h5 _ hv3).2
        rw [vy1 k hk2, tc _ k (by omega), cs1 k hk2, if_neg]
        · exact h6 k hk2
        · intro w
          by_cases y2 : vyOf (N 1) (cs k) = vyOf (N 1) i
          · rw [y2] at w hl
            omega
          · omega
  rw [toldOf_eq (S := N' 1) (cs := cs') hn okk' s3 (by omega) hk' v2 rfl, tcS, if_pos rfl]
  exact ⟨_, M', N', rfl, rfl, R⟩
