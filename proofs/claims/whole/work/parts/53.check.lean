/-! CHECK -/
def zq (T : Row) : Nat → Int32
  | 0 => T 4
  | q + 1 => if T (20 + q % 9) < 0 then zq T q else zNx (zq T q)
def pq (T : Row) : Nat → Nat
  | 0 => 0
  | q + 1 => if T (20 + q % 9) < 0 then pq T q else pq T q + 1
def sg (T : Row) (d : Int32) (q : Nat) : Int32 := sgt (zNx (zq T q)) (T (20 + q % 9)) d
theorem pq_mono (T : Row) (q : Nat) : ∀ d, pq T q ≤ pq T (q + d) := by
  intro d
  induction d with
  | zero => exact Nat.le_refl _
  | succ d ih =>
    rw [show q + (d + 1) = (q + d) + 1 from by omega, pq]
    split <;> omega
theorem pq_le (T : Row) {a b : Nat} (h : a ≤ b) : pq T a ≤ pq T b := by
  have := pq_mono T a (b - a)
  rw [show a + (b - a) = b from by omega] at this
  exact this
theorem pq_lt (T : Row) {a b : Nat} (h : a < b) (hs : ¬ T (20 + a % 9) < 0) : pq T a < pq T b := by
  have := pq_le T (show a + 1 ≤ b by omega)
  rw [pq, if_neg hs] at this
  omega
theorem pq_9 (T : Row) (i : Nat) : pq T (9 * i) = i * suS T 9 := by
  induction i with
  | zero => rw [Nat.zero_mul]; rfl
  | succ i ih =>
    have key : ∀ c, c ≤ 9 → pq T (9 * i + c) = i * suS T 9 + suS T c := by
      intro c
      induction c with
      | zero => intro _; rw [Nat.add_zero, ih]; rfl
      | succ c ih2 =>
        intro hc
        have e : suS T (c + 1) = if T (20 + c) < 0 then suS T c else suS T c + 1 := rfl
        rw [show 9 * i + (c + 1) = (9 * i + c) + 1 from by omega, pq, e, show (9 * i + c) % 9 = c from by omega, ih2 (by omega)]
        split <;> omega
    rw [show 9 * (i + 1) = 9 * i + 9 from by omega, key 9 (by omega), Nat.succ_mul]
theorem suS_cg {S T : Row} (h : ∀ k, 20 ≤ k → k < 29 → S k = T k) : ∀ i, i ≤ 9 → suS S i = suS T i := by
  intro i
  induction i with
  | zero => intro _; rfl
  | succ i ih => intro hi; rw [suS, suS, h _ (by omega) (by omega), ih (by omega)]
/-- where a comparing stops -/
def StopAt (w du : Nat) (wa ro : Row) (k v : Nat) : Prop := k ≤ v ∧ v ≤ du ∧ (∀ p, k ≤ p → p < v → p < w ∧ wa p = ro p) ∧ (v < du → ¬ (v < w ∧ wa v = ro v))
theorem StopAt.uni {w du : Nat} {wa ro : Row} {k v v' : Nat} (h : StopAt w du wa ro k v) (h' : StopAt w du wa ro k v') : v = v' := by
  obtain ⟨a1, a2, a3, a4⟩ := h
  obtain ⟨b1, b2, b3, b4⟩ := h'
  by_cases q : v < v'
  · exact absurd (b3 v a1 q) (a4 (by omega))
  · by_cases q' : v' < v
    · exact absurd (a3 v' b1 q') (b4 (by omega))
    · omega
theorem StopAt.step {w du : Nat} {wa ro : Row} {k v : Nat} (h : StopAt w du wa ro (k + 1) v) (hk : k < w ∧ wa k = ro k) : StopAt w du wa ro k v := by
  obtain ⟨a1, a2, a3, a4⟩ := h
  refine ⟨by omega, a2, fun p p1 p2 => ?_, a4⟩
  by_cases q : p = k
  · subst q; exact hk
  · exact a3 p (by omega) p2
theorem StopAt.here {w du : Nat} {wa ro : Row} {k : Nat} (hk : k ≤ du) (h : k < du → ¬ (k < w ∧ wa k = ro k)) : StopAt w du wa ro k k := ⟨Nat.le_refl _, hk, fun p p1 p2 => by omega, h⟩
/-- the class compares as it draws -/
theorem rightS_eq {M : Mem} {T ro : Row} {w n d : Nat} (hS : RSur (M (80 + 7)) T) (hz : M 80 12 = T 4) (hd : d < 201) (hw : w ≤ 60) (hn : n ≤ 20) (hdu : pq T (9 * n) ≤ 60) (hro : ∀ q, q < 9 * n → ¬ T (20 + q % 9) < 0 → ro (pq T q) = sg T (nI d) q) : ∃ v, f_X0_rightSights 80 17 (nI w) (nI n) (nI d) M = some (nI v, M) ∧ StopAt w (pq T (9 * n)) (M 17) ro 0 v := by
  have r8 : rfC 80 8 = 80 + 7 := (rf_co 80 (Or.inr rfl)).2.2.2.2.2.2.2.2
  have inner : ∀ (K : Nat → Nat → Int32 → Int32 → Int32 → Int32 → Int32 → Int32 → Mem → Option (Int32 × Mem)) (i : Nat), i < n → (∃ v, K 80 17 (nI w) (nI n) (nI d) (nI (pq T (9 * (i + 1)))) (zq T (9 * (i + 1))) (nI (i + 1)) M = some (nI v, M) ∧ StopAt w (pq T (9 * n)) (M 17) ro (pq T (9 * (i + 1))) v) → ∀ (r fuel c : Nat), c + r = 9 → r < fuel → ∃ v, f_X0_rightSights_b21 K fuel 80 17 (nI w) (nI n) (nI d) (nI (pq T (9 * i + c))) (zq T (9 * i + c)) (nI i) (nI c) M = some (nI v, M) ∧ StopAt w (pq T (9 * n)) (M 17) ro (pq T (9 * i + c)) v := by
    intro K i hi hK r
    induction r with
    | zero =>
      intro fuel c hc hf
      obtain ⟨f, rfl⟩ : ∃ f, fuel = f + 1 := ⟨fuel - 1, by omega⟩
      have : c = 9 := by omega
      subst this
      rw [f_X0_rightSights_b21, if_pos (show (9 : Int32) ≤ nI 9 by decide), f_X0_rightSights_b86, nI_1]
      exact hK
    | succ r ih =>
      intro fuel c hc hf
      obtain ⟨f, rfl⟩ : ∃ f, fuel = f + 1 := ⟨fuel - 1, by omega⟩
      have hc9 : c < 9 := by omega
      have hix : ixb (nI c) 9 = true := ixb_t hc9 (by omega)
      have h9 : ¬ (9 : Int32) ≤ nI c := nI_ge (a := c) (b := 9) (by omega) (by omega)
      obtain ⟨s1, s2⟩ := hS c hc9
      have us := uc_none (x := T (20 + c)) s2.1
      have hm : (9 * i + c) % 9 = c := by omega
      have nx := ih f (c + 1) (by omega) (by omega)
      rw [show 9 * i + (c + 1) = (9 * i + c) + 1 from by omega, pq, zq, hm] at nx
      have hq9 : 9 * i + c < 9 * n := by omega
      have hsg := hro (9 * i + c) hq9
      rw [sg, hm] at hsg
      have hlt : ¬ T (20 + c) < 0 → pq T (9 * i + c) < pq T (9 * n) := fun z => pq_lt T hq9 (by rw [hm]; exact z)
      generalize zq T (9 * i + c) = z0 at nx hsg ⊢
      generalize pq T (9 * i + c) = p0 at nx hsg hlt ⊢
      rw [f_X0_rightSights_b21, if_neg h9]
      simp only [hix, if_true]
      rw [ix_nI (by omega), r8, s1]
      by_cases q : T (20 + c) < 0
      · rw [if_pos q, if_pos q] at nx
        rw [if_pos (us.mpr q), f_X0_rightSights_b80, nI_1]
        exact nx
      · have uv : uc (T (20 + c)) = T (20 + c) := by
          unfold uc
          rw [if_pos (by rw [i_lt, i_0] at q; rw [i_le, i_0]; omega)]
        rw [if_neg q, if_neg q] at nx
        have hp0 := hlt q
        have hsi := sightC hd (zNx z0) (T (20 + c)) M
        have hdr := drawnC z0 M
        have hsg := hsg q
        generalize sgt (zNx z0) (T (20 + c)) (nI d) = gg at hsg hsi
        generalize zNx z0 = zz at nx hsi hdr
        rw [if_neg (fun z => q (us.mp z)), hdr, Option.bind_some]
        dsimp only
        by_cases q2 : w ≤ p0
        · rw [if_pos (nI_le q2 (by omega))]
          exact ⟨p0, rfl, StopAt.here (by omega) (fun _ z => by omega)⟩
        rw [if_neg (nI_ge (by omega) (by omega))]
        have i6 : ixb (nI p0) 60 = true := ixb_t (by omega) (by omega)
        simp only [i6, if_true]
        rw [s1, uv, hsi, Option.bind_some]
        dsimp only
        rw [ix_nI (by omega)]
        by_cases q3 : M 17 p0 = gg
        · rw [if_pos q3, f_X0_rightSights_b80, nI_1, nI_1]
          obtain ⟨v, v1, v2⟩ := nx
          exact ⟨v, v1, v2.step ⟨by omega, by rw [q3, hsg]⟩⟩
        · rw [if_neg q3]
          exact ⟨p0, rfl, StopAt.here (by omega) (fun _ z => q3 (by rw [z.2, hsg]))⟩
  have outer : ∀ (r fuel i : Nat), i + r = n → r < fuel → ∃ v, f_X0_rightSights_b12 fuel 80 17 (nI w) (nI n) (nI d) (nI (pq T (9 * i))) (zq T (9 * i)) (nI i) M = some (nI v, M) ∧ StopAt w (pq T (9 * n)) (M 17) ro (pq T (9 * i)) v := by
    intro r
    induction r with
    | zero =>
      intro fuel i hi hf
      obtain ⟨f, rfl⟩ : ∃ f, fuel = f + 1 := ⟨fuel - 1, by omega⟩
      have : i = n := by omega
      subst this
      rw [f_X0_rightSights_b12, if_pos (nI_le (Nat.le_refl _) (by omega))]
      exact ⟨_, rfl, StopAt.here (Nat.le_refl _) (fun z => by omega)⟩
    | succ r ih =>
      intro fuel i hi hf
      obtain ⟨f, rfl⟩ : ∃ f, fuel = f + 1 := ⟨fuel - 1, by omega⟩
      rw [f_X0_rightSights_b12, if_neg (nI_ge (by omega) (by omega))]
      exact inner (f_X0_rightSights_b12 f) i (by omega) (ih f (i + 1) (by omega) (by omega)) 9 FU 0 (by omega) (by unfold FU; omega)
  rw [f_X0_rightSights, f_X0_rightSights_b0, hz]
  exact outer n FU 0 (by omega) (by unfold FU; omega)
/-- the model draws first -/
theorem drawAll {N : Mem} {T : Row} {n d : Nat} (x3 x4 : Int32) (hT : ∀ k, 20 ≤ k → k < 29 → N 1 k = T k) (hz : N 1 4 = T 4) (hd : d < 201) (hn : n ≤ 20) (hdu : pq T (9 * n) ≤ 60) (h4 : ¬ (60 : Int32) < x4) : ∃ N', f_X10_check_b86 FU (nI n) (nI d) x3 x4 0 0 N = f_X10_check_b159 x3 x4 N' ∧ (∀ q, q < 9 * n → ¬ T (20 + q % 9) < 0 → N' 23 (pq T q) = sg T (nI d) q) ∧ ∀ x, x ≠ 1 → x ≠ 23 → N' x = N x := by
  have inner : ∀ (K : Int32 → Int32 → Int32 → Int32 → Int32 → Int32 → Mem → Option (Int32 × Mem)) (i : Nat), i < n → ∀ (r fuel c : Nat) (N1 : Mem), c + r = 9 → r < fuel → (∀ k, 20 ≤ k → k < 29 → N1 1 k = T k) → N1 1 4 = zq T (9 * i + c) → (∀ q, q < 9 * i + c → ¬ T (20 + q % 9) < 0 → N1 23 (pq T q) = sg T (nI d) q) → (∀ x, x ≠ 1 → x ≠ 23 → N1 x = N x) → ∃ N2, f_X10_check_b102 K fuel (nI n) (nI d) x3 x4 (nI (pq T (9 * i + c))) (nI i) (nI c) N1 = K (nI n) (nI d) x3 x4 (nI (pq T (9 * (i + 1)))) (nI (i + 1)) N2 ∧ (∀ k, 20 ≤ k → k < 29 → N2 1 k = T k) ∧ N2 1 4 = zq T (9 * (i + 1)) ∧ (∀ q, q < 9 * (i + 1) → ¬ T (20 + q % 9) < 0 → N2 23 (pq T q) = sg T (nI d) q) ∧ ∀ x, x ≠ 1 → x ≠ 23 → N2 x = N x := by
    intro K i hi r
    induction r with
    | zero =>
      intro fuel c N1 hc hf g1 g2 g3 g4
      obtain ⟨f, rfl⟩ : ∃ f, fuel = f + 1 := ⟨fuel - 1, by omega⟩
      have : c = 9 := by omega
      subst this
      rw [f_X10_check_b102, if_pos (show (9 : Int32) ≤ nI 9 by decide), f_X10_check_b153, nI_1]
      exact ⟨N1, rfl, g1, g2, g3, g4⟩
    | succ r ih =>
      intro fuel c N1 hc hf g1 g2 g3 g4
      obtain ⟨f, rfl⟩ : ∃ f, fuel = f + 1 := ⟨fuel - 1, by omega⟩
      have hc9 : c < 9 := by omega
      have h9 : ¬ (9 : Int32) ≤ nI c := nI_ge (a := c) (b := 9) (by omega) (by omega)
      have hm : (9 * i + c) % 9 = c := by omega
      have e20 : (20 : Int32) + nI c = nI (20 + c) := by rw [show (20 : Int32) = nI 20 from rfl, nI_add]
      have i33 : ixb (nI (20 + c)) 3300 = true := ixb_t (by omega) (by omega)
      have nx := ih f (c + 1)
      rw [show 9 * i + (c + 1) = (9 * i + c) + 1 from by omega, pq, zq, hm] at nx
      have hq9 : 9 * i + c < 9 * n := by omega
      have hlt : ¬ T (20 + c) < 0 → pq T (9 * i + c) < pq T (9 * n) := fun z => pq_lt T hq9 (by rw [hm]; exact z)
      have hold : ∀ q, q < 9 * i + c → ¬ T (20 + q % 9) < 0 → pq T q < pq T (9 * i + c) := fun q z1 z2 => pq_lt T z1 z2
      have hsg : sg T (nI d) (9 * i + c) = sgt (zNx (zq T (9 * i + c))) (T (20 + c)) (nI d) := by rw [sg, hm]
      have hp : pq T (9 * i + c) = pq T (9 * i + c) := rfl
      generalize zq T (9 * i + c) = z0 at nx hsg g2
      generalize hp0 : pq T (9 * i + c) = p0 at nx hlt hold ⊢
      rw [f_X10_check_b102, if_neg h9, e20]
      simp only [i33, if_true]
      rw [ix_nI (by omega), g1 (20 + c) (by omega) (by omega)]
      by_cases q : T (20 + c) < 0
      · rw [if_pos q, if_pos q] at nx
        rw [if_pos q, f_X10_check_b147, nI_1]
        exact nx N1 (by omega) (by omega) g1 g2 (fun q' h1 h2 => by
          by_cases y : q' = 9 * i + c
          · subst y; rw [hm] at h2; exact absurd q h2
          · exact g3 q' (by omega) h2) g4
      · rw [if_neg q, if_neg q] at nx
        have hlt := hlt q
        have hdr := drawnM hd (T (20 + c)) N1
        rw [g2] at hdr
        generalize sgt (zNx z0) (T (20 + c)) (nI d) = gg at hsg hdr
        generalize zNx z0 = zz at nx hdr
        have i6 : ixb (nI p0) 60 = true := ixb_t (by omega) (by omega)
        rw [if_neg q, hdr, Option.bind_some]
        dsimp only
        rw [if_pos i6, f_X10_check_b147, nI_1, nI_1, ix_nI (by omega)]
        refine nx _ (by omega) (by omega) (fun k k1 k2 => ?_) ?_ (fun q' h1 h2 => ?_) (fun x x1 x2 => ?_)
        · rw [mset_ne (by omega), mset_k (by omega)]; exact g1 k k1 k2
        · rw [mset_ne (by omega), mset_at]
        · by_cases y : q' = 9 * i + c
          · subst y; rw [hp0, mset_at, hsg]
          · have := hold q' (by omega) h2
            rw [mset_k (by omega), mset_ne (by omega)]
            exact g3 q' (by omega) h2
        · rw [mset_ne x2, mset_ne x1]; exact g4 x x1 x2
  have outer : ∀ (r fuel i : Nat) (N1 : Mem), i + r = n → r < fuel → (∀ k, 20 ≤ k → k < 29 → N1 1 k = T k) → N1 1 4 = zq T (9 * i) → (∀ q, q < 9 * i → ¬ T (20 + q % 9) < 0 → N1 23 (pq T q) = sg T (nI d) q) → (∀ x, x ≠ 1 → x ≠ 23 → N1 x = N x) → ∃ N', f_X10_check_b86 fuel (nI n) (nI d) x3 x4 (nI (pq T (9 * i))) (nI i) N1 = f_X10_check_b159 x3 x4 N' ∧ (∀ q, q < 9 * n → ¬ T (20 + q % 9) < 0 → N' 23 (pq T q) = sg T (nI d) q) ∧ ∀ x, x ≠ 1 → x ≠ 23 → N' x = N x := by
    intro r
    induction r with
    | zero =>
      intro fuel i N1 hi hf g1 g2 g3 g4
      obtain ⟨f, rfl⟩ : ∃ f, fuel = f + 1 := ⟨fuel - 1, by omega⟩
      have : i = n := by omega
      subst this
      rw [f_X10_check_b86, if_pos (nI_le (Nat.le_refl _) (by omega))]
      exact ⟨N1, rfl, g3, g4⟩
    | succ r ih =>
      intro fuel i N1 hi hf g1 g2 g3 g4
      obtain ⟨f, rfl⟩ : ∃ f, fuel = f + 1 := ⟨fuel - 1, by omega⟩
      obtain ⟨N2, e, a1, a2, a3, a4⟩ := inner (f_X10_check_b86 f) i (by omega) 9 FU 0 N1 (by omega) (by unfold FU; omega) g1 g2 g3 g4
      have e : f_X10_check_b102 (f_X10_check_b86 f) FU (nI n) (nI d) x3 x4 (nI (pq T (9 * i))) (nI i) 0 N1 = _ := e
      rw [f_X10_check_b86, if_neg (nI_ge (by omega) (by omega)), if_neg h4, e]
      exact ih f (i + 1) N2 (by omega) (by omega) a1 a2 a3 a4
  exact outer n FU 0 N (by omega) (by unfold FU; omega) hT hz (fun q hq => by omega) (fun _ _ _ => rfl)
theorem cmpM {N : Mem} {w du : Nat} (hw : w ≤ 60) (hdu : du ≤ 60) : ∃ v, f_X10_check_b184 FU (nI w) (nI du) 0 N = f_X10_check_b220 (nI w) (nI du) (nI v) N ∧ StopAt w du (N 22) (N 23) 0 v ∧ v ≤ w := by
  have key : ∀ (r fuel k : Nat), k + r = du → r < fuel → k ≤ w → ∃ v, f_X10_check_b184 fuel (nI w) (nI du) (nI k) N = f_X10_check_b220 (nI w) (nI du) (nI v) N ∧ StopAt w du (N 22) (N 23) k v ∧ v ≤ w := by
    intro r
    induction r with
    | zero =>
      intro fuel k hk hf hkw
      obtain ⟨f, rfl⟩ : ∃ f, fuel = f + 1 := ⟨fuel - 1, by omega⟩
      have : k = du := by omega
      subst this
      rw [f_X10_check_b184]
      by_cases q : w ≤ k
      · rw [if_pos (nI_le q (by omega))]
        exact ⟨k, rfl, StopAt.here (Nat.le_refl _) (fun z => by omega), hkw⟩
      · rw [if_neg (nI_ge (by omega) (by omega)), if_pos (nI_le (Nat.le_refl _) (by omega))]
        exact ⟨k, rfl, StopAt.here (Nat.le_refl _) (fun z => by omega), hkw⟩
    | succ r ih =>
      intro fuel k hk hf hkw
      obtain ⟨f, rfl⟩ : ∃ f, fuel = f + 1 := ⟨fuel - 1, by omega⟩
      have i6 : ixb (nI k) 60 = true := ixb_t (by omega) (by omega)
      rw [f_X10_check_b184]
      by_cases q : w ≤ k
      · rw [if_pos (nI_le q (by omega))]
        exact ⟨k, rfl, StopAt.here (by omega) (fun z => by omega), hkw⟩
      · rw [if_neg (nI_ge (by omega) (by omega)), if_neg (nI_ge (by omega) (by omega)), if_pos i6, if_pos i6, ix_nI (by omega)]
        by_cases q2 : N 22 k = N 23 k
        · rw [if_pos q2, nI_1]
          obtain ⟨v, v1, v2, v3⟩ := ih f (k + 1) (by omega) (by omega) (by omega)
          exact ⟨v, v1, v2.step ⟨by omega, q2⟩, v3⟩
        · rw [if_neg q2]
          exact ⟨k, rfl, StopAt.here (by omega) (fun _ z => q2 z.2), hkw⟩
  exact key du FU 0 (by omega) (by unfold FU; omega) (by omega)
theorem Rel.rest {M N N' : Mem} (h : Rel M N) (h1 : ∀ j, j < 3300 → N' 1 j = N 1 j) (hN : ∀ x, x ≠ 1 → x ≠ 3 → x ≠ 23 → N' x = N x) : Rel M N' := by
  obtain ⟨p1, ⟨p2, p3⟩, p4, p5, p6, p7⟩ := h
  obtain ⟨n, hn, hm, -⟩ := p1.1
  refine ⟨p1.mv hn hm.1 h1 (fun _ _ _ => rfl) (fun _ _ _ _ => rfl) (fun _ _ => rfl) (fun _ _ => rfl) (fun _ _ => rfl) (fun _ _ => rfl) (fun _ _ => rfl) (fun _ _ => rfl) (fun _ _ _ => rfl), ⟨by rw [hN 0 (by omega) (by omega) (by omega)]; exact p2, ?_⟩, ?_, ?_, ?_, ?_⟩
  · rw [hN 0 (by omega) (by omega) (by omega), hN 2 (by omega) (by omega) (by omega), h1 1 (by omega)]; exact p3
  · rw [hN 12 (by omega) (by omega) (by omega), hN 0 (by omega) (by omega) (by omega)]; exact p4
  · rw [hN 4 (by omega) (by omega) (by omega), hN 5 (by omega) (by omega) (by omega), hN 6 (by omega) (by omega) (by omega)]; exact p5
  · rw [hN 7 (by omega) (by omega) (by omega), hN 8 (by omega) (by omega) (by omega), hN 9 (by omega) (by omega) (by omega), hN 10 (by omega) (by omega) (by omega), hN 11 (by omega) (by omega) (by omega)]; exact p6
  · rw [hN 22 (by omega) (by omega) (by omega), hN 0 (by omega) (by omega) (by omega)]; exact p7
theorem q_check {M N : Mem} (h0 : Rel M N) (x1 x2 : Int32) : Eqv (f_X9_check x1 x2 M) (f_X10_check x1 x2 N) := by
  obtain ⟨w, hw, ex, ey, hwa⟩ := h0.2.2.2.2.2
  have h : Rel (mset M 0 10 0) (mset N 0 45 0) := by
    refine h0.wt ?_ ?_ (by rw [mset_k (by omega)]) (by rw [mset_k (by omega)]) (fun x a b => mset_ne (by omega)) (fun x a => mset_ne (by omega))
    · rw [mset_ne (by omega), mset_ne (by omega), mset_ne (by omega), mset_k (by omega)]
      exact h0.2.2.1
    · rw [mset_at, mset_at]
      exact ⟨0, by omega, rfl, rfl, fun i hi => by omega⟩
  have hwa : ∀ i, i < w → mset M 0 10 0 17 i = mset N 0 45 0 22 i := fun i hi => by rw [mset_ne (by omega), mset_ne (by omega)]; exact hwa i hi
  unfold f_X9_check f_X9_check_b0 f_X10_check f_X10_check_b0
  rw [ex, ey]
  generalize mset M 0 10 0 = M1 at h hwa ⊢
  generalize mset N 0 45 0 = N1 at h hwa ⊢
  rw [isWithinN x1 1 20 1 20 (by decide) (by decide), isInN x1 1 20 1 20 (by decide) (by decide)]
  simp only [Option.bind_some, b2i_eq0]
  by_cases hc : 1 ≤ x1.toInt ∧ x1.toInt ≤ 20
  rotate_left
  · rw [if_pos hc, if_pos hc]
    exact ⟨_, M1, N1, rfl, rfl, h⟩
  rw [if_neg (nn hc), if_neg (nn hc), isWithinN x2 0 200 0 200 (by decide) (by decide), isInN x2 0 200 0 200 (by decide) (by decide)]
  simp only [Option.bind_some, b2i_eq0]
  by_cases hk : 0 ≤ x2.toInt ∧ x2.toInt ≤ 200
  rotate_left
  · rw [if_pos hk, if_pos hk]
    exact ⟨_, M1, N1, rfl, rfl, h⟩
  rw [if_neg (nn hk), if_neg (nn hk), h.2.1.1]
  by_cases q : N1 0 3 = 0
  · rw [if_pos q, if_pos q]
    exact ⟨_, M1, N1, rfl, rfl, h⟩
  rw [if_neg q, if_neg q]
  obtain ⟨n, hn, rfl⟩ := i_of (n := 21) (x := x1) (by omega) (by omega)
  obtain ⟨d, hd, rfl⟩ := i_of (n := 201) (x := x2) (by omega) (by omega)
  rcases h.2.1.2 with z | ⟨-, hR, -⟩
  · exact absurd z q
  have hS := hR.2.2.2.2.1
  have hz := hR.2.2.2.2.2
  obtain ⟨N2, e2, b1, b2⟩ := setAside_eq (a := 1) (b := 3) (by omega) N1
  obtain ⟨N3, e3, c1, c2⟩ := setAside_eq (a := 2) (b := 1) (by omega) N2
  have c1 : ∀ j, j < 3300 → N3 1 j = N1 2 j := fun j hj => by rw [c1 j hj, b2 2 (by omega)]
  have hsu := suS_cg (S := N3 1) (T := N1 2) (fun k k1 k2 => c1 k (by omega)) 9 (by omega)
  have h9 := pq_9 (N1 2) n
  have hsl := suS_le (N1 2) 9
  have hb : n * suS (N1 2) 9 ≤ 180 := by
    have := Nat.mul_le_mul (show n ≤ 20 by omega) hsl
    omega
  rw [surveyedC_eq (Or.inr rfl) hS, e2, Option.bind_some, Option.bind_some]
  dsimp only
  rw [e3, Option.bind_some]
  dsimp only
  rw [surveyedM_eq, Option.bind_some]
  dsimp only
  rw [hsu, nI_mul, ← h9]
  rw [← h9] at hb
  generalize hdu0 : pq (N1 2) (9 * n) = du at hb ⊢
  by_cases hfull : du ≤ 60
  rotate_left
  · have g60 : (60 : Int32) < nI du := nI_lt (a := 60) (by omega) (by omega)
    have g60' : ¬ nI du ≤ (60 : Int32) := nI_ge (a := 60) (by omega) (by omega)
    rw [if_neg g60', show FU = 3999 + 1 from rfl, f_X10_check_b86]
    obtain ⟨N4, f1, f2, f3⟩ := setAside_eq (a := 3) (b := 1) (by omega) N3
    have e159 : f_X10_check_b159 (nI w) (nI du) N3 = some ((-1000000003 : Int32), N4) := by
      unfold f_X10_check_b159
      rw [f1, Option.bind_some]
      exact if_neg g60'
    have R : Rel M1 N4 := h.rest (fun j hj => by rw [f2 j hj, c2 3 (by omega), b1 j hj]) (fun x y1 y2 y3 => by rw [f3 x y1, c2 x y1, b2 x y2])
    have g : (if nI n ≤ (0 : Int32) then f_X10_check_b159 (nI w) (nI du) N3 else if (60 : Int32) < nI du then f_X10_check_b159 (nI w) (nI du) N3 else f_X10_check_b102 (f_X10_check_b86 3999) FU (nI n) (nI d) (nI w) (nI du) 0 0 0 N3) = some ((-1000000003 : Int32), N4) := by
      rw [if_pos g60, e159]
      split <;> rfl
    rw [g]
    exact ⟨_, M1, N4, rfl, rfl, R⟩
  have g60 : ¬ (60 : Int32) < nI du := nI_nlt (a := 60) (b := du) (by omega) (by omega)
  have g60' : nI du ≤ (60 : Int32) := nI_le (b := 60) hfull (by omega)
  obtain ⟨N4, e4, d1, d2⟩ := drawAll (N := N3) (T := N1 2) (n := n) (d := d) (nI w) (nI du) (fun k k1 k2 => c1 k (by omega)) (c1 4 (by omega)) hd (by omega) (by omega) g60
  obtain ⟨N5, e5, f1, f2⟩ := setAside_eq (a := 3) (b := 1) (by omega) N4
  have R : Rel M1 N5 := h.rest (fun j hj => by rw [f1 j hj, d2 3 (by omega) (by omega), c2 3 (by omega), b1 j hj]) (fun x y1 y2 y3 => by rw [f2 x y1, d2 x y1 y3, c2 x y1, b2 x y2])
  obtain ⟨v', e6, st', hvw⟩ := cmpM (N := N5) (w := w) (du := du) hw hfull
  obtain ⟨v, e7, st⟩ := rightS_eq (M := M1) (T := N1 2) (ro := N5 23) (w := w) (n := n) (d := d) hS hz hd hw (by omega) (by omega) (fun q' q1 q2 => by rw [f2 23 (by omega)]; exact d1 q' q1 q2)
  rw [hdu0] at st
  have w22 : ∀ i, i < w → M1 17 i = N5 22 i := fun i hi => by rw [hwa i hi, f2 22 (by omega), d2 22 (by omega) (by omega), c2 22 (by omega), b2 22 (by omega)]
  have st : StopAt w du (N5 22) (N5 23) 0 v := by
    obtain ⟨s1, s2, s3, s4⟩ := st
    refine ⟨s1, s2, fun p p1 p2 => ?_, fun z y => s4 z ⟨y.1, by rw [w22 v y.1]; exact y.2⟩⟩
    have := s3 p p1 p2
    exact ⟨this.1, by rw [← w22 p this.1]; exact this.2⟩
  have := st.uni st'
  subst this
  rw [if_pos g60', e7, e4, f_X10_check_b159, e5, Option.bind_some, Option.bind_some]
  dsimp only
  rw [if_pos g60', e6, f_X10_check_b220, f_X10_check_b237, f_X9_check_b98]
  by_cases y1 : nI v = nI du
  · by_cases y2 : nI v = nI w
    · rw [if_pos y1, if_pos y2, if_pos y2, if_pos y1]
      exact ⟨_, M1, N5, rfl, rfl, R⟩
    · rw [if_pos y1, if_neg y2, if_neg y2]
      exact ⟨_, M1, N5, rfl, rfl, R⟩
  · rw [if_neg y1]
    by_cases y2 : nI v = nI w
    · rw [if_pos y2, if_neg y1]
      exact ⟨_, M1, N5, rfl, rfl, R⟩
    · rw [if_neg y2]
      exact ⟨_, M1, N5, rfl, rfl, R⟩
