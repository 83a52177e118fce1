/-! FEED -/
theorem Rel.byte {M N : Mem} (h : Rel M N) {n : Nat} {b : Int32} (hn : n < 96) (e1 : M 1 1 = nI n) (hb : 0 ≤ b.toInt ∧ b.toInt ≤ 255) : Rel (mset (mset M 1 1 (nI (n + 1))) 2 n b) (mset (mset N 12 n b) 0 13 (nI (n + 1))) := by
  obtain ⟨n', hn', ex, ey, hw⟩ := h.2.2.1
  have : n' = n := (nI_eq (by omega) (by omega)).mp (ex.symm.trans e1)
  subst this
  refine h.wt ?_ ?_ ?_ ?_ ?_ ?_
  · rw [mset_self, mset_ne (show (2 : Nat) ≠ 1 by omega), mset_ne (show (12 : Nat) ≠ 0 by omega), mset_self, mset_ne (show (1 : Nat) ≠ 2 by omega), mset_at, mset_at]
    refine ⟨n' + 1, by omega, rfl, rfl, fun i hi => ?_⟩
    unfold upd
    by_cases z : i = n'
    · rw [if_pos z, if_pos z]
      exact ⟨rfl, hb⟩
    · rw [if_neg z, if_neg z]
      exact hw i (by omega)
  · rw [mset_ne (show (17 : Nat) ≠ 2 by omega), mset_ne (show (17 : Nat) ≠ 1 by omega), mset_ne (show (22 : Nat) ≠ 0 by omega), mset_ne (show (22 : Nat) ≠ 12 by omega), mset_ne (show (0 : Nat) ≠ 2 by omega), mset_ne (show (0 : Nat) ≠ 1 by omega), mset_k (show (45 : Nat) ≠ 13 by omega), mset_ne (show (0 : Nat) ≠ 12 by omega)]
    exact h.2.2.2.2.2
  · rw [mset_ne (by omega), mset_ne (by omega)]
  · rw [mset_k (by omega), mset_ne (by omega)]
  · intro x a b
    rw [mset_ne (by omega), mset_ne (by omega)]
  · intro x a
    rw [mset_ne (by omega), mset_ne (by omega)]
def bt (x : Int32) (i : Nat) : Bool := x.toBitVec.getLsbD i
theorem b_ext {x y : Int32} (h : ∀ i, i < 32 → bt x i = bt y i) : x = y := Int32.toBitVec_inj.mp (BitVec.eq_of_getLsbD_eq (fun i hi => h i hi))
theorem b_or (x y : Int32) (i : Nat) : bt (x ||| y) i = (bt x i || bt y i) := by unfold bt; rw [Int32.toBitVec_or, BitVec.getLsbD_or]
theorem b_and (x y : Int32) (i : Nat) : bt (x &&& y) i = (bt x i && bt y i) := by unfold bt; rw [Int32.toBitVec_and, BitVec.getLsbD_and]
theorem b_xor (x y : Int32) (i : Nat) : bt (x ^^^ y) i = (bt x i ^^ bt y i) := by unfold bt; rw [Int32.toBitVec_xor, BitVec.getLsbD_xor]
theorem b_big {x : Int32} {i : Nat} (h : 32 ≤ i) : bt x i = false := BitVec.getLsbD_of_ge _ _ h
theorem b_255 (i : Nat) : bt 255 i = decide (i < 8) := by
  rcases Nat.lt_or_ge i 32 with h | h
  · exact (by decide +kernel : ∀ i, i < 32 → bt 255 i = decide (i < 8)) i h
  · rw [b_big h, decide_eq_false (by omega)]
theorem b_65535 (i : Nat) : bt 65535 i = decide (i < 16) := by
  rcases Nat.lt_or_ge i 32 with h | h
  · exact (by decide +kernel : ∀ i, i < 32 → bt 65535 i = decide (i < 16)) i h
  · rw [b_big h, decide_eq_false (by omega)]
theorem b_m1 : ∀ i, i < 32 → bt (-1) i = true := by decide +kernel
theorem b_0 (i : Nat) : bt 0 i = false := BitVec.getLsbD_zero
theorem s_l : ∀ n, n < 32 → ((nI n &&& 31).toBitVec.smod 32).toNat = n := by decide +kernel
theorem s_u : ∀ n, n < 32 → (((nI n).toUInt32 &&& Int32.toUInt32 31).toBitVec % 32).toNat = n := by decide +kernel
theorem b_shl (n : Nat) (hn : n < 32) (x : Int32) {i : Nat} (hi : i < 32) : bt (x <<< (nI n &&& 31)) i = (decide (n ≤ i) && bt x (i - n)) := by
  unfold bt
  rw [Int32.toBitVec_shiftLeft]
  show (x.toBitVec <<< ((nI n &&& 31).toBitVec.smod 32).toNat).getLsbD i = _
  rw [s_l n hn, BitVec.getLsbD_shiftLeft]
  rcases Nat.lt_or_ge i n with h | h
  · simp [h, Nat.not_le.mpr h]
  · simp [hi, h, Nat.not_lt.mpr h]
theorem b_ushr (n : Nat) (hn : n < 32) (x : Int32) (i : Nat) : bt ((x.toUInt32 >>> ((nI n).toUInt32 &&& Int32.toUInt32 31)).toInt32) i = bt x (n + i) := by
  show (x.toUInt32 >>> ((nI n).toUInt32 &&& Int32.toUInt32 31)).toBitVec.getLsbD i = x.toUInt32.toBitVec.getLsbD (n + i)
  rw [UInt32.toBitVec_shiftRight]
  show (x.toUInt32.toBitVec >>> (((nI n).toUInt32 &&& Int32.toUInt32 31).toBitVec % 32).toNat).getLsbD i = _
  rw [s_u n hn, BitVec.getLsbD_ushiftRight]
theorem b_sshr (n : Nat) (hn : n < 32) (x : Int32) {i : Nat} (hi : i < 32) : bt (x >>> (nI n &&& 31)) i = if n + i < 32 then bt x (n + i) else bt x 31 := by
  unfold bt
  rw [Int32.toBitVec_shiftRight]
  show (x.toBitVec.sshiftRight ((nI n &&& 31).toBitVec.smod 32).toNat).getLsbD i = _
  rw [s_l n hn, BitVec.getLsbD_sshiftRight, BitVec.msb_eq_getLsbD_last]
  simp [hi]
theorem by_lt (y : Int32) : 0 ≤ (y &&& 255).toInt ∧ (y &&& 255).toInt ≤ 255 := by
  have e : (y &&& 255).toBitVec.toNat ≤ 255 := by
    rw [Int32.toBitVec_and, BitVec.toNat_and]
    exact Nat.and_le_right
  have : (y &&& 255).toInt = ((y &&& 255).toBitVec.toNat : Int) := by
    show (y &&& 255).toBitVec.toInt = _
    rw [BitVec.toInt_eq_toNat_of_lt (by omega)]
  omega
theorem by_eq (x : Int32) {s : Nat} (hs : s < 25) : iushr x (nI s) &&& 255 = (x >>> (nI s &&& 31)) &&& 255 := by
  apply b_ext
  intro i hi
  rw [b_and, b_and, b_255, b_sshr s (by omega) x hi]
  unfold iushr
  rw [b_ushr s (by omega)]
  by_cases h : i < 8
  · rw [if_pos (by omega)]
  · rw [decide_eq_false h, Bool.and_false, Bool.and_false]
theorem feedC {f : Nat} {M : Mem} {n : Nat} (hn : n < 96) (e : M 1 1 = nI n) (x : Int32) {s : Nat} (hs : s < 25) : f_X4_take_b3 (f + 1) x (nI s) M = f_X4_take_b3 f x (nI s + (-8)) (mset (mset M 1 1 (nI (n + 1))) 2 n (iushr x (nI s) &&& 255)) := by
  rw [f_X4_take_b3, if_neg (nI_lt0 (by omega)), e, if_neg (show ¬ (96 : Int32) ≤ nI n from nI_ge (a := n) (b := 96) hn (by omega)), if_pos (ixb_t hn (by omega)), ix_nI (by omega), nI_1]
theorem feedM {f : Nat} {N : Mem} {n : Nat} (hn : n < 96) (e : N 0 13 = nI n) (x1 x2 x3 x : Int32) {k s : Nat} (hk : k < 12) (hs : ((24 : Int32) - ((8 : Int32) * (irem (nI k) (4 : Int32)))) = nI s) (hx : x = if k < 4 then x1 else if k < 8 then x2 else x3) : f_X10_feed_b18 (f + 1) x1 x2 x3 (nI k) N = f_X10_feed_b18 f x1 x2 x3 (nI (k + 1)) (mset (mset N 12 n ((x >>> (nI s &&& 31)) &&& 255)) 0 13 (nI (n + 1))) := by
  have go : f_X10_feed_b47 (f_X10_feed_b18 f) x1 x2 x3 (nI k) x N = f_X10_feed_b18 f x1 x2 x3 (nI (k + 1)) (mset (mset N 12 n ((x >>> (nI s &&& 31)) &&& 255)) 0 13 (nI (n + 1))) := by
    rw [f_X10_feed_b47, e, if_pos (ixb_t hn (by omega)), ix_nI (by omega), f_X10_feed_bc75_1, hs, mset_ne (show (0 : Nat) ≠ 12 by omega), e, nI_1, nI_1]
  rw [f_X10_feed_b18, if_neg (show ¬ (12 : Int32) ≤ nI k from nI_ge (a := k) (b := 12) hk (by omega))]
  by_cases h4 : k < 4
  · rw [if_neg (show ¬ (4 : Int32) ≤ nI k from nI_ge (a := k) (b := 4) h4 (by omega))]
    rw [if_pos h4] at hx
    subst hx
    exact go
  · rw [if_neg h4] at hx
    rw [if_pos (show (4 : Int32) ≤ nI k from nI_le (a := 4) (by omega) (by omega))]
    by_cases h8 : k < 8
    · rw [if_neg (show ¬ (8 : Int32) ≤ nI k from nI_ge (a := k) (b := 8) h8 (by omega))]
      rw [if_pos h8] at hx
      subst hx
      exact go
    · rw [if_neg h8] at hx
      rw [if_pos (show (8 : Int32) ≤ nI k from nI_le (a := 8) (by omega) (by omega))]
      subst hx
      exact go
theorem feed1 {f f' : Nat} {M N : Mem} (h : Rel M N) {n : Nat} (hn : n < 96) (e : M 1 1 = nI n) (x1 x2 x3 x : Int32) {k s : Nat} (hk : k < 12) (hs25 : s < 25) (hs : ((24 : Int32) - ((8 : Int32) * (irem (nI k) (4 : Int32)))) = nI s) (hx : x = if k < 4 then x1 else if k < 8 then x2 else x3) : ∃ M' N', Rel M' N' ∧ M' 1 1 = nI (n + 1) ∧ f_X4_take_b3 (f + 1) x (nI s) M = f_X4_take_b3 f x (nI s + (-8)) M' ∧ f_X10_feed_b18 (f' + 1) x1 x2 x3 (nI k) N = f_X10_feed_b18 f' x1 x2 x3 (nI (k + 1)) N' := by
  obtain ⟨n', hn', ex, ey, -⟩ := h.2.2.1
  have ey : N 0 13 = nI n := by rw [ey, ← ex, e]
  refine ⟨_, _, h.byte hn e (by_lt (x >>> (nI s &&& 31))), ?_, ?_, feedM hn ey x1 x2 x3 x hk hs hx⟩
  · rw [mset_ne (show (1 : Nat) ≠ 2 by omega), mset_at]
  · rw [feedC hn e x hs25, by_eq x hs25]
theorem feed4 {f' : Nat} {M N : Mem} (h : Rel M N) {n : Nat} (hn : n + 4 ≤ 96) (e : M 1 1 = nI n) (x1 x2 x3 x : Int32) {j : Nat} (hj : j < 3) (hx : x = if 4 * j < 4 then x1 else if 4 * j < 8 then x2 else x3) : ∃ M' N', Rel M' N' ∧ M' 1 1 = nI (n + 4) ∧ f_X4_take x M = some (0, M') ∧ f_X10_feed_b18 (f' + 4) x1 x2 x3 (nI (4 * j)) N = f_X10_feed_b18 f' x1 x2 x3 (nI (4 * j + 4)) N' := by
  have hx' : ∀ i, i < 4 → x = if 4 * j + i < 4 then x1 else if 4 * j + i < 8 then x2 else x3 := by
    intro i hi
    rw [hx]
    obtain rfl | rfl | rfl : j = 0 ∨ j = 1 ∨ j = 2 := by omega
    · rw [if_pos (by omega), if_pos (by omega)]
    · rw [if_neg (by omega), if_pos (by omega), if_neg (by omega), if_pos (by omega)]
    · rw [if_neg (by omega), if_neg (by omega), if_neg (by omega), if_neg (by omega)]
  have hs' : ∀ j, j < 3 → ∀ i, i < 4 → ((24 : Int32) - ((8 : Int32) * (irem (nI (4 * j + i)) (4 : Int32)))) = nI (24 - 8 * i) := by decide +kernel
  obtain ⟨M1, N1, r1, e1, c1, m1⟩ := feed1 (f := 3999) (f' := f' + 3) h (by omega) e x1 x2 x3 x (k := 4 * j + 0) (s := 24) (by omega) (by omega) (hs' j hj 0 (by omega)) (hx' 0 (by omega))
  obtain ⟨M2, N2, r2, e2, c2, m2⟩ := feed1 (f := 3998) (f' := f' + 2) r1 (by omega) e1 x1 x2 x3 x (k := 4 * j + 1) (s := 16) (by omega) (by omega) (hs' j hj 1 (by omega)) (hx' 1 (by omega))
  obtain ⟨M3, N3, r3, e3, c3, m3⟩ := feed1 (f := 3997) (f' := f' + 1) r2 (by omega) e2 x1 x2 x3 x (k := 4 * j + 2) (s := 8) (by omega) (by omega) (hs' j hj 2 (by omega)) (hx' 2 (by omega))
  obtain ⟨M4, N4, r4, e4, c4, m4⟩ := feed1 (f := 3996) (f' := f') r3 (by omega) e3 x1 x2 x3 x (k := 4 * j + 3) (s := 0) (by omega) (by omega) (hs' j hj 3 (by omega)) (hx' 3 (by omega))
  have hl : ∀ M : Mem, f_X4_take_b3 3996 x (nI 0 + (-8)) M = some (0, M) := by
    intro M
    rw [show (3996 : Nat) = 3995 + 1 from rfl, f_X4_take_b3, if_pos (by decide)]
  refine ⟨M4, N4, r4, e4, ?_, ?_⟩
  · rw [f_X4_take, f_X4_take_b0, show FU = 3999 + 1 from rfl, show (24 : Int32) = nI 24 from rfl, c1, show nI 24 + (-8) = nI 16 by decide, show (3999 : Nat) = 3998 + 1 from rfl, c2, show nI 16 + (-8) = nI 8 by decide, show (3998 : Nat) = 3997 + 1 from rfl, c3, show nI 8 + (-8) = nI 0 by decide, show (3997 : Nat) = 3996 + 1 from rfl, c4, hl]
  · exact m1.trans (m2.trans (m3.trans m4))
theorem q_feed {M N : Mem} (h : Rel M N) (x1 x2 x3 : Int32) : Eqv (f_X9_feed x1 x2 x3 M) (f_X10_feed x1 x2 x3 N) := by
  obtain ⟨n, hn, ex, ey, -⟩ := h.2.2.1
  unfold f_X9_feed f_X9_feed_b0 f_X10_feed f_X10_feed_b0
  have e12 : nI n + (12 : Int32) = nI (n + 12) := by rw [show (12 : Int32) = nI 12 from rfl, nI_add]
  rw [ex, ey, e12]
  by_cases hq : n + 12 ≤ 96
  · have q : nI (n + 12) ≤ (96 : Int32) := nI_le (b := 96) hq (by omega)
    rw [if_pos q, if_pos q]
    obtain ⟨M1, N1, r1, e1, c1, m1⟩ := feed4 (f' := 3996) h (by omega) ex x1 x2 x3 x1 (j := 0) (by omega) (by rw [if_pos (by omega)])
    obtain ⟨M2, N2, r2, e2, c2, m2⟩ := feed4 (f' := 3992) r1 (by omega) e1 x1 x2 x3 x2 (j := 1) (by omega) (by rw [if_neg (by omega), if_pos (by omega)])
    obtain ⟨M3, N3, r3, e3, c3, m3⟩ := feed4 (f' := 3988) r2 (by omega) e2 x1 x2 x3 x3 (j := 2) (by omega) (by rw [if_neg (by omega), if_neg (by omega)])
    rw [c1, Option.bind_some, c2, Option.bind_some, c3, Option.bind_some]
    have m1 : f_X10_feed_b18 FU x1 x2 x3 0 N = f_X10_feed_b18 3996 x1 x2 x3 (nI 4) N1 := m1
    have m2 : f_X10_feed_b18 3996 x1 x2 x3 (nI 4) N1 = f_X10_feed_b18 3992 x1 x2 x3 (nI 8) N2 := m2
    have m3 : f_X10_feed_b18 3992 x1 x2 x3 (nI 8) N2 = f_X10_feed_b18 3988 x1 x2 x3 (nI 12) N3 := m3
    rw [m1, m2, m3, show (3988 : Nat) = 3987 + 1 from rfl, f_X10_feed_b18, if_pos (by decide), f_X10_feed_b91]
    obtain ⟨n', -, ex', ey', -⟩ := r3.2.2.1
    exact ⟨_, M3, N3, rfl, by rw [ey', ← ex'], r3⟩
  · have q : ¬ nI (n + 12) ≤ (96 : Int32) := nI_ge (a := 96) (b := n + 12) (by omega) (by omega)
    rw [if_neg q, if_neg q]
    exact ⟨_, M, N, rfl, rfl, h⟩
