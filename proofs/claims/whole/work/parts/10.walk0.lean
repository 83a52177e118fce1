abbrev m_X2_become : Mth := (yX2_become, cX2_become, 5, none, 1)
theorem yf_X2_become : YF m_X2_become 4 := ⟨tw_491, tw_72, by decide +kernel, by decide +kernel⟩
def f_X2_become_bc32_1  (a0 : Nat) (M : Mem) : Option (Int32 × Mem) :=
  some (0, (mset (mset M a0 5 (-1000000005 : Int32)) a0 6 (-1000000005 : Int32)))
set_option maxRecDepth 20000 in
set_option maxHeartbeats 4000000 in
theorem ok_X2_become_bc32_1 {l : Launch} {g : Gam} {b : Nat}   (a0 : Nat) (M : Mem) (z : Int32 × Mem) (ha0 : shC[a0]? = some (1, 2)) (hf : f_X2_become_bc32_1 a0 M = some z) : V l g (wC b) m_X2_become 32 [(0, .ref (b + a0))] [] M none z.2 := by
  unfold f_X2_become_bc32_1 at hf
  refine V_aload_n (Y := m_X2_become) (pc := 32) 0 dX2_become_32 rfl ?_
  refine V_ldc (Y := m_X2_become) (pc := 33) (x := (-1000000005 : Int32)) dX2_become_33 tw_492 ?_
  refine V_pi (Y := m_X2_become) (pc := 35) 5 kX2 ha0 (by decide +kernel) rfl rfl rfl tw_305 dX2_become_35 ?_
  refine V_aload_n (Y := m_X2_become) (pc := 38) 0 dX2_become_38 rfl ?_
  refine V_ldc (Y := m_X2_become) (pc := 39) (x := (-1000000005 : Int32)) dX2_become_39 tw_492 ?_
  refine V_pi (Y := m_X2_become) (pc := 41) 6 kX2 ha0 (by decide +kernel) rfl rfl rfl tw_310 dX2_become_41 ?_
  cases hf
  exact V_vret (Y := m_X2_become) rfl dX2_become_44
def f_X2_become_b0  (a0 : Nat) (x1 : Int32) (x2 : Int32) (x3 : Int32) (x4 : Int32) (M : Mem) : Option (Int32 × Mem) :=
  f_X2_become_bc32_1  a0 (mset (mset (mset (mset (mset M a0 0 x1) a0 1 (x2 / (100 : Int32))) a0 2 (irem x2 (100 : Int32))) a0 3 x3) a0 4 x4)
set_option maxRecDepth 20000 in
set_option maxHeartbeats 4000000 in
theorem ok_X2_become_b0 {l : Launch} {g : Gam} {b : Nat}   (a0 : Nat) (x1 : Int32) (x2 : Int32) (x3 : Int32) (x4 : Int32) (M : Mem) (z : Int32 × Mem) (ha0 : shC[a0]? = some (1, 2)) (hf : f_X2_become_b0 a0 x1 x2 x3 x4 M = some z) : V l g (wC b) m_X2_become 0 [(0, .ref (b + a0)), (1, .int x1), (2, .int x2), (3, .int x3), (4, .int x4)] [] M none z.2 := by
  unfold f_X2_become_b0 at hf
  refine V_aload_n (Y := m_X2_become) (pc := 0) 0 dX2_become_0 rfl ?_
  refine V_iload_n (Y := m_X2_become) (pc := 1) 1 dX2_become_1 rfl ?_
  refine V_pi (Y := m_X2_become) (pc := 2) 0 kX2 ha0 (by decide +kernel) rfl rfl rfl tw_282 dX2_become_2 ?_
  refine V_aload_n (Y := m_X2_become) (pc := 5) 0 dX2_become_5 rfl ?_
  refine V_iload_n (Y := m_X2_become) (pc := 6) 2 dX2_become_6 rfl ?_
  refine V_bipush (Y := m_X2_become) (pc := 7) (x := (100 : Int32)) dX2_become_7 (by decide +kernel) ?_
  refine V_idiv (Y := m_X2_become) (pc := 9) dX2_become_9 (by decide +kernel) ?_
  refine V_pi (Y := m_X2_become) (pc := 10) 1 kX2 ha0 (by decide +kernel) rfl rfl rfl tw_286 dX2_become_10 ?_
  refine V_aload_n (Y := m_X2_become) (pc := 13) 0 dX2_become_13 rfl ?_
  refine V_iload_n (Y := m_X2_become) (pc := 14) 2 dX2_become_14 rfl ?_
  refine V_bipush (Y := m_X2_become) (pc := 15) (x := (100 : Int32)) dX2_become_15 (by decide +kernel) ?_
  refine V_irem (Y := m_X2_become) (pc := 17) dX2_become_17 (by decide +kernel) ?_
  refine V_pi (Y := m_X2_become) (pc := 18) 2 kX2 ha0 (by decide +kernel) rfl rfl rfl tw_291 dX2_become_18 ?_
  refine V_aload_n (Y := m_X2_become) (pc := 21) 0 dX2_become_21 rfl ?_
  refine V_iload_n (Y := m_X2_become) (pc := 22) 3 dX2_become_22 rfl ?_
  refine V_pi (Y := m_X2_become) (pc := 23) 3 kX2 ha0 (by decide +kernel) rfl rfl rfl tw_296 dX2_become_23 ?_
  refine V_aload_n (Y := m_X2_become) (pc := 26) 0 dX2_become_26 rfl ?_
  refine V_iload (Y := m_X2_become) (pc := 27) 4 dX2_become_27 rfl ?_
  refine V_pi (Y := m_X2_become) (pc := 29) 4 kX2 ha0 (by decide +kernel) rfl rfl rfl tw_301 dX2_become_29 ?_
  exact V_sub [0] rfl (ok_X2_become_bc32_1  a0 (mset (mset (mset (mset (mset M a0 0 x1) a0 1 (x2 / (100 : Int32))) a0 2 (irem x2 (100 : Int32))) a0 3 x3) a0 4 x4) z ha0 hf)
def f_X2_become (a0 : Nat) (x1 : Int32) (x2 : Int32) (x3 : Int32) (x4 : Int32) (M : Mem) : Option (Int32 × Mem) := f_X2_become_b0 a0 x1 x2 x3 x4 M
set_option maxRecDepth 20000 in
set_option maxHeartbeats 4000000 in
theorem ok_X2_become {l : Launch} {g : Gam} {b : Nat} : ∀ (a0 : Nat) (x1 : Int32) (x2 : Int32) (x3 : Int32) (x4 : Int32) (M : Mem) (z : Int32 × Mem), shC[a0]? = some (1, 2) → f_X2_become a0 x1 x2 x3 x4 M = some z → Cn l g (wC b) m_X2_become [.ref (b + a0), .int x1, .int x2, .int x3, .int x4] M none z.2 := fun a0 x1 x2 x3 x4 M z ha0 hf => Cn_of (by decide +kernel) (Nat.le_of_ble_eq_true rfl) (V_sub [0, 1, 2, 3, 4] rfl (ok_X2_become_b0 a0 x1 x2 x3 x4 M z ha0 hf))
abbrev m_X0_addMark : Mth := (yX0_addMark, cX0_addMark, 5, some .int, 2)
theorem yf_X0_addMark : YF m_X0_addMark 4 := ⟨tw_486, tw_71, by decide +kernel, by decide +kernel⟩
def f_X0_addMark_b0  (a0 : Nat) (x1 : Int32) (x2 : Int32) (x3 : Int32) (x4 : Int32) (M : Mem) : Option (Int32 × Mem) :=
  if (M a0 9) < (24 : Int32) then
    if ixb (M a0 9) 24 = true then
    (f_X2_become (rfC (rfC a0 0) (ix (M a0 9))) x1 x2 x3 x4 M).bind fun q2 =>
    some ((((mset q2.2 a0 9 ((q2.2 a0 9) + (1 : Int32))) a0 9) - (1 : Int32)), (mset q2.2 a0 9 ((q2.2 a0 9) + (1 : Int32))))
    else none
  else
    some ((-1000000003 : Int32), M)
set_option maxRecDepth 20000 in
set_option maxHeartbeats 4000000 in
theorem ok_X0_addMark_b0 {l : Launch} {g : Gam} {b : Nat}   (a0 : Nat) (x1 : Int32) (x2 : Int32) (x3 : Int32) (x4 : Int32) (M : Mem) (z : Int32 × Mem) (ha0 : shC[a0]? = some (1, 0)) (hf : f_X0_addMark_b0 a0 x1 x2 x3 x4 M = some z) : V l g (wC b) m_X0_addMark 0 [(0, .ref (b + a0)), (1, .int x1), (2, .int x2), (3, .int x3), (4, .int x4)] [] M (some (.int z.1)) z.2 := by
  unfold f_X0_addMark_b0 at hf
  refine V_aload_n (Y := m_X0_addMark) (pc := 0) 0 dX0_addMark_0 rfl ?_
  refine V_gi (Y := m_X0_addMark) (pc := 1) 9 kX0 ha0 (by decide +kernel) rfl tw_350 dX0_addMark_1 ?_
  refine V_bipush (Y := m_X0_addMark) (pc := 4) (x := (24 : Int32)) dX0_addMark_4 (by decide +kernel) ?_
  refine V_icmp_lt (Y := m_X0_addMark) (pc := 6) (tgt := 12) dX0_addMark_6 (by decide +kernel) hf (fun hf => ?_) (fun hf => ?_)
  · refine V_aload_n (Y := m_X0_addMark) (pc := 12) 0 dX0_addMark_12 rfl ?_
    refine V_gr (Y := m_X0_addMark) (pc := 13) 0 kX0 ha0 (by decide +kernel) rfl tw_329 dX0_addMark_13 ?_
    refine V_aload_n (Y := m_X0_addMark) (pc := 16) 0 dX0_addMark_16 rfl ?_
    refine V_gi (Y := m_X0_addMark) (pc := 17) 9 kX0 ha0 (by decide +kernel) rfl tw_350 dX0_addMark_17 ?_
    obtain ⟨hi1, hf⟩ := g_if hf
    refine V_aald (Y := m_X0_addMark) (pc := 20) 1 rfl (wtC.1 _ _ ha0 0 _ rfl) hi1 dX0_addMark_20 ?_
    refine V_iload_n (Y := m_X0_addMark) (pc := 21) 1 dX0_addMark_21 rfl ?_
    refine V_iload_n (Y := m_X0_addMark) (pc := 22) 2 dX0_addMark_22 rfl ?_
    refine V_iload_n (Y := m_X0_addMark) (pc := 23) 3 dX0_addMark_23 rfl ?_
    refine V_iload (Y := m_X0_addMark) (pc := 24) 4 dX0_addMark_24 rfl ?_
    obtain ⟨q2, hq2, hf⟩ := g_bind hf
    refine V_cVv (Y := m_X0_addMark) (pc := 26) (As := [.int x1, .int x2, .int x3, .int x4]) yf_X2_become kX2 (wtC.2 _ _ _ (wtC.1 _ _ ha0 0 _ rfl) _ (ixb_lt hi1)) (by decide +kernel) (ok_X2_become (rfC (rfC a0 0) (ix (M a0 9))) x1 x2 x3 x4 M _ (wtC.2 _ _ _ (wtC.1 _ _ ha0 0 _ rfl) _ (ixb_lt hi1)) hq2) tw_489 tw_490 tw_488 rfl rfl (Nat.le_of_ble_eq_true rfl) dX0_addMark_26 ?_
    refine V_aload_n (Y := m_X0_addMark) (pc := 29) 0 dX0_addMark_29 rfl ?_
    refine V_dup (Y := m_X0_addMark) (pc := 30) dX0_addMark_30 rfl ?_
    refine V_gi (Y := m_X0_addMark) (pc := 31) 9 kX0 ha0 (by decide +kernel) rfl tw_350 dX0_addMark_31 ?_
    refine V_iconst (Y := m_X0_addMark) (pc := 34) (x := (1 : Int32)) dX0_addMark_34 (by decide +kernel) ?_
    refine V_iadd (Y := m_X0_addMark) (pc := 35) dX0_addMark_35 ?_
    refine V_pi (Y := m_X0_addMark) (pc := 36) 9 kX0 ha0 (by decide +kernel) rfl rfl rfl tw_350 dX0_addMark_36 ?_
    refine V_aload_n (Y := m_X0_addMark) (pc := 39) 0 dX0_addMark_39 rfl ?_
    refine V_gi (Y := m_X0_addMark) (pc := 40) 9 kX0 ha0 (by decide +kernel) rfl tw_350 dX0_addMark_40 ?_
    refine V_iconst (Y := m_X0_addMark) (pc := 43) (x := (1 : Int32)) dX0_addMark_43 (by decide +kernel) ?_
    refine V_isub (Y := m_X0_addMark) (pc := 44) dX0_addMark_44 ?_
    cases hf
    exact V_iret (Y := m_X0_addMark) rfl dX0_addMark_45
  · refine V_ldc (Y := m_X0_addMark) (pc := 9) (x := (-1000000003 : Int32)) dX0_addMark_9 tw_487 ?_
    cases hf
    exact V_iret (Y := m_X0_addMark) rfl dX0_addMark_11
def f_X0_addMark (a0 : Nat) (x1 : Int32) (x2 : Int32) (x3 : Int32) (x4 : Int32) (M : Mem) : Option (Int32 × Mem) := f_X0_addMark_b0 a0 x1 x2 x3 x4 M
set_option maxRecDepth 20000 in
set_option maxHeartbeats 4000000 in
theorem ok_X0_addMark {l : Launch} {g : Gam} {b : Nat} : ∀ (a0 : Nat) (x1 : Int32) (x2 : Int32) (x3 : Int32) (x4 : Int32) (M : Mem) (z : Int32 × Mem), shC[a0]? = some (1, 0) → f_X0_addMark a0 x1 x2 x3 x4 M = some z → Cn l g (wC b) m_X0_addMark [.ref (b + a0), .int x1, .int x2, .int x3, .int x4] M (some (.int z.1)) z.2 := fun a0 x1 x2 x3 x4 M z ha0 hf => Cn_of (by decide +kernel) (Nat.le_of_ble_eq_true rfl) (V_sub [0, 1, 2, 3, 4] rfl (ok_X0_addMark_b0 a0 x1 x2 x3 x4 M z ha0 hf))
abbrev m_X0_marksPut : Mth := (yX0_marksPut, cX0_marksPut, 3, some .int, 1)
theorem yf_X0_marksPut : YF m_X0_marksPut 0 := ⟨tw_1063, tw_71, by decide +kernel, by decide +kernel⟩
def f_X0_marksPut_b32 (k4 : Nat → Int32 → Int32 → Mem → Option (Int32 × Mem)) (a0 : Nat) (x2 : Int32) (s0 : Int32) (s1 : Int32) (M : Mem) : Option (Int32 × Mem) :=
  k4 a0 (s1 + s0) (x2 + (1 : Int32)) M
set_option maxRecDepth 20000 in
set_option maxHeartbeats 4000000 in
theorem ok_X0_marksPut_b32 {l : Launch} {g : Gam} {b : Nat} (k4 : Nat → Int32 → Int32 → Mem → Option (Int32 × Mem)) (hk4 : ∀ (a0 : Nat) (x1 : Int32) (x2 : Int32) (M : Mem) (z : Int32 × Mem), shC[a0]? = some (1, 0) → k4 a0 x1 x2 M = some z → V l g (wC b) m_X0_marksPut 4 [(0, .ref (b + a0)), (1, .int x1), (2, .int x2)] [] M (some (.int z.1)) z.2) (a0 : Nat) (x2 : Int32) (s0 : Int32) (s1 : Int32) (M : Mem) (z : Int32 × Mem) (ha0 : shC[a0]? = some (1, 0)) (hf : f_X0_marksPut_b32 k4 a0 x2 s0 s1 M = some z) : V l g (wC b) m_X0_marksPut 32 [(0, .ref (b + a0)), (2, .int x2)] [.int s0, .int s1] M (some (.int z.1)) z.2 := by
  unfold f_X0_marksPut_b32 at hf
  refine V_iadd (Y := m_X0_marksPut) (pc := 32) dX0_marksPut_32 ?_
  refine V_istore_n (Y := m_X0_marksPut) (pc := 33) [(1, .int (s1 + s0)), (0, .ref (b + a0)), (2, .int x2)] dX0_marksPut_33 (by decide +kernel) rfl ?_
  refine V_iinc (Y := m_X0_marksPut) (pc := 34) (y := (x2 + (1 : Int32))) 2 [(2, .int (x2 + (1 : Int32))), (1, .int (s1 + s0)), (0, .ref (b + a0))] dX0_marksPut_34 rfl rfl (by decide +kernel) rfl ?_
  refine V_goto (Y := m_X0_marksPut) (pc := 37) (tgt := 4) dX0_marksPut_37 (by decide +kernel) ?_
  exact V_sub [2, 1, 0] rfl (hk4 a0 (s1 + s0) (x2 + (1 : Int32)) M z ha0 hf)
def f_X0_marksPut_b4  : Nat → Nat → Int32 → Int32 → Mem → Option (Int32 × Mem)
  | 0, _, _, _, _ => none
  | n + 1, a0, x1, x2, M =>
    if (M a0 9) ≤ x2 then
      some (x1, M)
    else
      if ixb x2 24 = true then
      if (M (rfC (rfC a0 0) (ix x2)) 5) = (-1000000005 : Int32) then
        f_X0_marksPut_b32 (f_X0_marksPut_b4  n) a0 x2 (0 : Int32) x1 M
      else
        f_X0_marksPut_b32 (f_X0_marksPut_b4  n) a0 x2 (1 : Int32) x1 M
      else none
set_option maxRecDepth 20000 in
set_option maxHeartbeats 4000000 in
theorem ok_X0_marksPut_b4 {l : Launch} {g : Gam} {b : Nat}   : ∀ (n : Nat) (a0 : Nat) (x1 : Int32) (x2 : Int32) (M : Mem) (z : Int32 × Mem), (ha0 : shC[a0]? = some (1, 0)) → f_X0_marksPut_b4  n a0 x1 x2 M = some z → V l g (wC b) m_X0_marksPut 4 [(0, .ref (b + a0)), (1, .int x1), (2, .int x2)] [] M (some (.int z.1)) z.2 := by
  intro n
  induction n with
  | zero =>
    intro a0 x1 x2 M z ha0 hf
    cases hf
  | succ n ih =>
    intro a0 x1 x2 M z ha0 hf
    rw [f_X0_marksPut_b4] at hf
    refine V_iload_n (Y := m_X0_marksPut) (pc := 4) 2 dX0_marksPut_4 rfl ?_
    refine V_aload_n (Y := m_X0_marksPut) (pc := 5) 0 dX0_marksPut_5 rfl ?_
    refine V_gi (Y := m_X0_marksPut) (pc := 6) 9 kX0 ha0 (by decide +kernel) rfl tw_350 dX0_marksPut_6 ?_
    refine V_icmp_ge (Y := m_X0_marksPut) (pc := 9) (tgt := 40) dX0_marksPut_9 (by decide +kernel) hf (fun hf => ?_) (fun hf => ?_)
    · refine V_iload_n (Y := m_X0_marksPut) (pc := 40) 1 dX0_marksPut_40 rfl ?_
      cases hf
      exact V_iret (Y := m_X0_marksPut) rfl dX0_marksPut_41
    · refine V_iload_n (Y := m_X0_marksPut) (pc := 12) 1 dX0_marksPut_12 rfl ?_
      refine V_aload_n (Y := m_X0_marksPut) (pc := 13) 0 dX0_marksPut_13 rfl ?_
      refine V_gr (Y := m_X0_marksPut) (pc := 14) 0 kX0 ha0 (by decide +kernel) rfl tw_329 dX0_marksPut_14 ?_
      refine V_iload_n (Y := m_X0_marksPut) (pc := 17) 2 dX0_marksPut_17 rfl ?_
      obtain ⟨hi1, hf⟩ := g_if hf
      refine V_aald (Y := m_X0_marksPut) (pc := 18) 1 rfl (wtC.1 _ _ ha0 0 _ rfl) hi1 dX0_marksPut_18 ?_
      refine V_gi (Y := m_X0_marksPut) (pc := 19) 5 kX2 (wtC.2 _ _ _ (wtC.1 _ _ ha0 0 _ rfl) _ (ixb_lt hi1)) (by decide +kernel) rfl tw_309 dX0_marksPut_19 ?_
      refine V_ldc (Y := m_X0_marksPut) (pc := 22) (x := (-1000000005 : Int32)) dX0_marksPut_22 tw_328 ?_
      refine V_icmp_eq (Y := m_X0_marksPut) (pc := 24) (tgt := 31) dX0_marksPut_24 (by decide +kernel) hf (fun hf => ?_) (fun hf => ?_)
      · refine V_iconst (Y := m_X0_marksPut) (pc := 31) (x := (0 : Int32)) dX0_marksPut_31 (by decide +kernel) ?_
        exact V_sub [0, 2] rfl (ok_X0_marksPut_b32 (f_X0_marksPut_b4  n) ih a0 x2 (0 : Int32) x1 M z ha0 hf)
      · refine V_iconst (Y := m_X0_marksPut) (pc := 27) (x := (1 : Int32)) dX0_marksPut_27 (by decide +kernel) ?_
        refine V_goto (Y := m_X0_marksPut) (pc := 28) (tgt := 32) dX0_marksPut_28 (by decide +kernel) ?_
        exact V_sub [0, 2] rfl (ok_X0_marksPut_b32 (f_X0_marksPut_b4  n) ih a0 x2 (1 : Int32) x1 M z ha0 hf)
def f_X0_marksPut_b0  (a0 : Nat) (M : Mem) : Option (Int32 × Mem) :=
  f_X0_marksPut_b4  FU a0 (0 : Int32) (0 : Int32) M
set_option maxRecDepth 20000 in
set_option maxHeartbeats 4000000 in
theorem ok_X0_marksPut_b0 {l : Launch} {g : Gam} {b : Nat}   (a0 : Nat) (M : Mem) (z : Int32 × Mem) (ha0 : shC[a0]? = some (1, 0)) (hf : f_X0_marksPut_b0 a0 M = some z) : V l g (wC b) m_X0_marksPut 0 [(0, .ref (b + a0))] [] M (some (.int z.1)) z.2 := by
  unfold f_X0_marksPut_b0 at hf
  refine V_iconst (Y := m_X0_marksPut) (pc := 0) (x := (0 : Int32)) dX0_marksPut_0 (by decide +kernel) ?_
  refine V_istore_n (Y := m_X0_marksPut) (pc := 1) [(1, .int (0 : Int32)), (0, .ref (b + a0))] dX0_marksPut_1 (by decide +kernel) rfl ?_
  refine V_iconst (Y := m_X0_marksPut) (pc := 2) (x := (0 : Int32)) dX0_marksPut_2 (by decide +kernel) ?_
  refine V_istore_n (Y := m_X0_marksPut) (pc := 3) [(2, .int (0 : Int32)), (1, .int (0 : Int32)), (0, .ref (b + a0))] dX0_marksPut_3 (by decide +kernel) rfl ?_
  exact V_sub [2, 1, 0] rfl (ok_X0_marksPut_b4  FU a0 (0 : Int32) (0 : Int32) M z ha0 hf)
def f_X0_marksPut (a0 : Nat) (M : Mem) : Option (Int32 × Mem) := f_X0_marksPut_b0 a0 M
set_option maxRecDepth 20000 in
set_option maxHeartbeats 4000000 in
theorem ok_X0_marksPut {l : Launch} {g : Gam} {b : Nat} : ∀ (a0 : Nat) (M : Mem) (z : Int32 × Mem), shC[a0]? = some (1, 0) → f_X0_marksPut a0 M = some z → Cn l g (wC b) m_X0_marksPut [.ref (b + a0)] M (some (.int z.1)) z.2 := fun a0 M z ha0 hf => Cn_of (by decide +kernel) (Nat.le_of_ble_eq_true rfl) (V_sub [0] rfl (ok_X0_marksPut_b0 a0 M z ha0 hf))
