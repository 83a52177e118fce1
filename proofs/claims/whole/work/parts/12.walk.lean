abbrev m_X9_choose : Mth := (yX9_choose, cX9_choose, 3, some .int, 2)
theorem yf_X9_choose : YF m_X9_choose 1 := ⟨tw_767, tw_65, by decide +kernel, by decide +kernel⟩
def f_X9_choose_bc94_1  (x2 : Int32) (s0 : Int32) (s1 : Int32) (M : Mem) : Option (Int32 × Mem) :=
  if ixb s1 3 = true then
  if ixb x2 3 = true then
  some (((mset M 51 (ix s1) s0) 51 (ix x2)), (mset M 51 (ix s1) s0))
  else none
  else none
set_option maxRecDepth 20000 in
set_option maxHeartbeats 4000000 in
theorem ok_X9_choose_bc94_1 {l : Launch} {g : Gam} {b : Nat}   (x2 : Int32) (s0 : Int32) (s1 : Int32) (M : Mem) (z : Int32 × Mem)  (hf : f_X9_choose_bc94_1 x2 s0 s1 M = some z) : V l g (wC b) m_X9_choose 94 [(0, .ref (b + 0)), (2, .int x2)] [.int s0, .int s1, .ref (b + 51)] M (some (.int z.1)) z.2 := by
  unfold f_X9_choose_bc94_1 at hf
  obtain ⟨hi1, hf⟩ := g_if hf
  refine V_iast (Y := m_X9_choose) (pc := 94) sC_51 hi1 dX9_choose_94 ?_
  refine V_aload_n (Y := m_X9_choose) (pc := 95) 0 dX9_choose_95 rfl ?_
  refine V_grL (Y := m_X9_choose) (pc := 96) (x := 48) 1 kX9 sC_0 (by decide +kernel) rfl rfl tw_430 dX9_choose_96 ?_
  refine V_grL (Y := m_X9_choose) (pc := 99) (x := 51) 4 kX0 sC_48 (by decide +kernel) rfl rfl tw_341 dX9_choose_99 ?_
  refine V_iload_n (Y := m_X9_choose) (pc := 102) 1 dX9_choose_102 rfl ?_
  obtain ⟨hi2, hf⟩ := g_if hf
  refine V_iald (Y := m_X9_choose) (pc := 103) sC_51 hi2 dX9_choose_103 ?_
  obtain rfl := Option.some.inj hf
  exact V_iret (Y := m_X9_choose) rfl dX9_choose_104
def f_X9_choose_b0  (x1 : Int32) (M : Mem) : Option (Int32 × Mem) :=
  (f_X9_isBelow x1 (M 48 9) M).bind fun q1 =>
  if q1.1 = 0 then
    some ((-1000000001 : Int32), q1.2)
  else
    (f_X0_isChosen 48 x1 q1.2).bind fun q2 =>
    if q2.1 = 0 then
      if ixb x1 24 = true then
      if ixb (q2.2 (rfC 49 (ix x1)) 1) 3 = true then
      if (q2.2 51 (ix (q2.2 (rfC 49 (ix x1)) 1))) < (5 : Int32) then
        if ixb (q2.2 (rfC 49 (ix x1)) 1) 3 = true then
        if ixb (((q2.2 (rfC 49 (ix x1)) 1) * (5 : Int32)) + (q2.2 51 (ix (q2.2 (rfC 49 (ix x1)) 1)))) 15 = true then
        if ixb (q2.2 (rfC 49 (ix x1)) 1) 3 = true then
        f_X9_choose_bc94_1  (q2.2 (rfC 49 (ix x1)) 1) (((mset q2.2 50 (ix (((q2.2 (rfC 49 (ix x1)) 1) * (5 : Int32)) + (q2.2 51 (ix (q2.2 (rfC 49 (ix x1)) 1))))) x1) 51 (ix (q2.2 (rfC 49 (ix x1)) 1))) + (1 : Int32)) (q2.2 (rfC 49 (ix x1)) 1) (mset q2.2 50 (ix (((q2.2 (rfC 49 (ix x1)) 1) * (5 : Int32)) + (q2.2 51 (ix (q2.2 (rfC 49 (ix x1)) 1))))) x1)
        else none
        else none
        else none
      else
        some ((-1000000003 : Int32), q2.2)
      else none
      else none
    else
      some ((-1000000002 : Int32), q2.2)
set_option maxRecDepth 20000 in
set_option maxHeartbeats 4000000 in
theorem ok_X9_choose_b0 {l : Launch} {g : Gam} {b : Nat}   (x1 : Int32) (M : Mem) (z : Int32 × Mem)  (hf : f_X9_choose_b0 x1 M = some z) : V l g (wC b) m_X9_choose 0 [(0, .ref (b + 0)), (1, .int x1)] [] M (some (.int z.1)) z.2 := by
  unfold f_X9_choose_b0 at hf
  refine V_iload_n (Y := m_X9_choose) (pc := 0) 1 dX9_choose_0 rfl ?_
  refine V_aload_n (Y := m_X9_choose) (pc := 1) 0 dX9_choose_1 rfl ?_
  refine V_grL (Y := m_X9_choose) (pc := 2) (x := 48) 1 kX9 sC_0 (by decide +kernel) rfl rfl tw_430 dX9_choose_2 ?_
  refine V_gi (Y := m_X9_choose) (pc := 5) 9 kX0 sC_48 (by decide +kernel) rfl tw_352 dX9_choose_5 ?_
  obtain ⟨q1, hq1, hf⟩ := g_bind hf
  refine V_cSi (Y := m_X9_choose) (pc := 8) (As := [.int x1, .int (M 48 9)]) yf_X9_isBelow (by decide +kernel) (ok_X9_isBelow x1 (M 48 9) M _  hq1) tw_473 tw_472 rfl rfl (Nat.le_of_ble_eq_true rfl) dX9_choose_8 ?_
  refine V_if_ne (Y := m_X9_choose) (pc := 11) (tgt := 17) dX9_choose_11 (by decide +kernel) hf (fun hf => ?_) (fun hf => ?_)
  · refine V_aload_n (Y := m_X9_choose) (pc := 17) 0 dX9_choose_17 rfl ?_
    refine V_grL (Y := m_X9_choose) (pc := 18) (x := 48) 1 kX9 sC_0 (by decide +kernel) rfl rfl tw_430 dX9_choose_18 ?_
    refine V_iload_n (Y := m_X9_choose) (pc := 21) 1 dX9_choose_21 rfl ?_
    obtain ⟨q2, hq2, hf⟩ := g_bind hf
    refine V_cVi (Y := m_X9_choose) (pc := 22) (As := [.int x1]) yf_X0_isChosen kX0 sC_48 (by decide +kernel) (ok_X0_isChosen 48 x1 q1.2 _ sC_48 hq2) tw_769 tw_770 tw_768 rfl rfl (Nat.le_of_ble_eq_true rfl) dX9_choose_22 ?_
    refine V_if_eq (Y := m_X9_choose) (pc := 25) (tgt := 31) dX9_choose_25 (by decide +kernel) hf (fun hf => ?_) (fun hf => ?_)
    · refine V_aload_n (Y := m_X9_choose) (pc := 31) 0 dX9_choose_31 rfl ?_
      refine V_grL (Y := m_X9_choose) (pc := 32) (x := 48) 1 kX9 sC_0 (by decide +kernel) rfl rfl tw_430 dX9_choose_32 ?_
      refine V_grL (Y := m_X9_choose) (pc := 35) (x := 49) 0 kX0 sC_48 (by decide +kernel) rfl rfl tw_332 dX9_choose_35 ?_
      refine V_iload_n (Y := m_X9_choose) (pc := 38) 1 dX9_choose_38 rfl ?_
      obtain ⟨hi3, hf⟩ := g_if hf
      refine V_aald (Y := m_X9_choose) (pc := 39) 1 rfl sC_49 hi3 dX9_choose_39 ?_
      refine V_gi (Y := m_X9_choose) (pc := 40) 1 kX2 (wtC.2 _ _ _ sC_49 _ (ixb_lt hi3)) (by decide +kernel) rfl tw_289 dX9_choose_40 ?_
      refine V_istore_n (Y := m_X9_choose) (pc := 43) [(2, .int (q2.2 (rfC 49 (ix x1)) 1)), (0, .ref (b + 0)), (1, .int x1)] dX9_choose_43 (by decide +kernel) rfl ?_
      refine V_aload_n (Y := m_X9_choose) (pc := 44) 1 dX9_choose_44 rfl ?_
      refine V_grL (Y := m_X9_choose) (pc := 45) (x := 48) 1 kX9 sC_0 (by decide +kernel) rfl rfl tw_430 dX9_choose_45 ?_
      refine V_grL (Y := m_X9_choose) (pc := 48) (x := 51) 4 kX0 sC_48 (by decide +kernel) rfl rfl tw_341 dX9_choose_48 ?_
      refine V_iload_n (Y := m_X9_choose) (pc := 51) 0 dX9_choose_51 rfl ?_
      obtain ⟨hi4, hf⟩ := g_if hf
      refine V_iald (Y := m_X9_choose) (pc := 52) sC_51 hi4 dX9_choose_52 ?_
      refine V_iconst (Y := m_X9_choose) (pc := 53) (x := (5 : Int32)) dX9_choose_53 (by decide +kernel) ?_
      refine V_icmp_lt (Y := m_X9_choose) (pc := 54) (tgt := 60) dX9_choose_54 (by decide +kernel) hf (fun hf => ?_) (fun hf => ?_)
      · refine V_aload_n (Y := m_X9_choose) (pc := 60) 1 dX9_choose_60 rfl ?_
        refine V_grL (Y := m_X9_choose) (pc := 61) (x := 48) 1 kX9 sC_0 (by decide +kernel) rfl rfl tw_430 dX9_choose_61 ?_
        refine V_grL (Y := m_X9_choose) (pc := 64) (x := 50) 3 kX0 sC_48 (by decide +kernel) rfl rfl tw_338 dX9_choose_64 ?_
        refine V_iload_n (Y := m_X9_choose) (pc := 67) 0 dX9_choose_67 rfl ?_
        refine V_iconst (Y := m_X9_choose) (pc := 68) (x := (5 : Int32)) dX9_choose_68 (by decide +kernel) ?_
        refine V_imul (Y := m_X9_choose) (pc := 69) dX9_choose_69 ?_
        refine V_aload_n (Y := m_X9_choose) (pc := 70) 1 dX9_choose_70 rfl ?_
        refine V_grL (Y := m_X9_choose) (pc := 71) (x := 48) 1 kX9 sC_0 (by decide +kernel) rfl rfl tw_430 dX9_choose_71 ?_
        refine V_grL (Y := m_X9_choose) (pc := 74) (x := 51) 4 kX0 sC_48 (by decide +kernel) rfl rfl tw_341 dX9_choose_74 ?_
        refine V_iload_n (Y := m_X9_choose) (pc := 77) 0 dX9_choose_77 rfl ?_
        obtain ⟨hi5, hf⟩ := g_if hf
        refine V_iald (Y := m_X9_choose) (pc := 78) sC_51 hi5 dX9_choose_78 ?_
        refine V_iadd (Y := m_X9_choose) (pc := 79) dX9_choose_79 ?_
        refine V_iload_n (Y := m_X9_choose) (pc := 80) 2 dX9_choose_80 rfl ?_
        obtain ⟨hi6, hf⟩ := g_if hf
        refine V_iast (Y := m_X9_choose) (pc := 81) sC_50 hi6 dX9_choose_81 ?_
        refine V_aload_n (Y := m_X9_choose) (pc := 82) 1 dX9_choose_82 rfl ?_
        refine V_grL (Y := m_X9_choose) (pc := 83) (x := 48) 1 kX9 sC_0 (by decide +kernel) rfl rfl tw_430 dX9_choose_83 ?_
        refine V_grL (Y := m_X9_choose) (pc := 86) (x := 51) 4 kX0 sC_48 (by decide +kernel) rfl rfl tw_341 dX9_choose_86 ?_
        refine V_iload_n (Y := m_X9_choose) (pc := 89) 0 dX9_choose_89 rfl ?_
        refine V_dup2 (Y := m_X9_choose) (pc := 90) dX9_choose_90 rfl rfl ?_
        obtain ⟨hi7, hf⟩ := g_if hf
        refine V_iald (Y := m_X9_choose) (pc := 91) sC_51 hi7 dX9_choose_91 ?_
        refine V_iconst (Y := m_X9_choose) (pc := 92) (x := (1 : Int32)) dX9_choose_92 (by decide +kernel) ?_
        refine V_iadd (Y := m_X9_choose) (pc := 93) dX9_choose_93 ?_
        exact V_sub [1, 0] rfl (ok_X9_choose_bc94_1  (q2.2 (rfC 49 (ix x1)) 1) (((mset q2.2 50 (ix (((q2.2 (rfC 49 (ix x1)) 1) * (5 : Int32)) + (q2.2 51 (ix (q2.2 (rfC 49 (ix x1)) 1))))) x1) 51 (ix (q2.2 (rfC 49 (ix x1)) 1))) + (1 : Int32)) (q2.2 (rfC 49 (ix x1)) 1) (mset q2.2 50 (ix (((q2.2 (rfC 49 (ix x1)) 1) * (5 : Int32)) + (q2.2 51 (ix (q2.2 (rfC 49 (ix x1)) 1))))) x1) z  hf)
      · refine V_ldc (Y := m_X9_choose) (pc := 57) (x := (-1000000003 : Int32)) dX9_choose_57 tw_482 ?_
        obtain rfl := Option.some.inj hf
        exact V_iret (Y := m_X9_choose) rfl dX9_choose_59
    · refine V_ldc (Y := m_X9_choose) (pc := 28) (x := (-1000000002 : Int32)) dX9_choose_28 tw_772 ?_
      obtain rfl := Option.some.inj hf
      exact V_iret (Y := m_X9_choose) rfl dX9_choose_30
  · refine V_ldc (Y := m_X9_choose) (pc := 14) (x := (-1000000001 : Int32)) dX9_choose_14 tw_481 ?_
    obtain rfl := Option.some.inj hf
    exact V_iret (Y := m_X9_choose) rfl dX9_choose_16
def f_X9_choose (x1 : Int32) (M : Mem) : Option (Int32 × Mem) := f_X9_choose_b0 x1 M
set_option maxRecDepth 20000 in
set_option maxHeartbeats 4000000 in
theorem ok_X9_choose {l : Launch} {g : Gam} {b : Nat} : ∀ (x1 : Int32) (M : Mem) (z : Int32 × Mem), f_X9_choose x1 M = some z → Cn l g (wC b) m_X9_choose [.ref (b + 0), .int x1] M (some (.int z.1)) z.2 := fun x1 M z  hf => Cn_of (by decide +kernel) (Nat.le_of_ble_eq_true rfl) (V_sub [0, 1] rfl (ok_X9_choose_b0 x1 M z  hf))

abbrev m_X9_clear : Mth := (yX9_clear, cX9_clear, 3, some .int, 2)
theorem yf_X9_clear : YF m_X9_clear 0 := ⟨tw_776, tw_65, by decide +kernel, by decide +kernel⟩
def f_X9_clear_b10  : Nat → Int32 → Int32 → Mem → Option (Int32 × Mem)
  | 0, _, _, _ => none
  | n + 1, x1, x2, M =>
    if (3 : Int32) ≤ x2 then
      some (x1, M)
    else
      if ixb x2 3 = true then
      f_X9_clear_b10  n x1 (x2 + (1 : Int32)) (mset M 51 (ix x2) (0 : Int32))
      else none
set_option maxRecDepth 20000 in
set_option maxHeartbeats 4000000 in
theorem ok_X9_clear_b10 {l : Launch} {g : Gam} {b : Nat}   : ∀ (n : Nat) (x1 : Int32) (x2 : Int32) (M : Mem) (z : Int32 × Mem), f_X9_clear_b10  n x1 x2 M = some z → V l g (wC b) m_X9_clear 10 [(0, .ref (b + 0)), (1, .int x1), (2, .int x2)] [] M (some (.int z.1)) z.2 := by
  intro n
  induction n with
  | zero =>
    intro x1 x2 M z  hf
    cases hf
  | succ n ih =>
    intro x1 x2 M z  hf
    rw [f_X9_clear_b10] at hf
    refine V_iload_n (Y := m_X9_clear) (pc := 10) 2 dX9_clear_10 rfl ?_
    refine V_iconst (Y := m_X9_clear) (pc := 11) (x := (3 : Int32)) dX9_clear_11 (by decide +kernel) ?_
    refine V_icmp_ge (Y := m_X9_clear) (pc := 12) (tgt := 31) dX9_clear_12 (by decide +kernel) hf (fun hf => ?_) (fun hf => ?_)
    · refine V_iload_n (Y := m_X9_clear) (pc := 31) 1 dX9_clear_31 rfl ?_
      obtain rfl := Option.some.inj hf
      exact V_iret (Y := m_X9_clear) rfl dX9_clear_32
    · refine V_aload_n (Y := m_X9_clear) (pc := 15) 0 dX9_clear_15 rfl ?_
      refine V_grL (Y := m_X9_clear) (pc := 16) (x := 48) 1 kX9 sC_0 (by decide +kernel) rfl rfl tw_430 dX9_clear_16 ?_
      refine V_grL (Y := m_X9_clear) (pc := 19) (x := 51) 4 kX0 sC_48 (by decide +kernel) rfl rfl tw_341 dX9_clear_19 ?_
      refine V_iload_n (Y := m_X9_clear) (pc := 22) 2 dX9_clear_22 rfl ?_
      refine V_iconst (Y := m_X9_clear) (pc := 23) (x := (0 : Int32)) dX9_clear_23 (by decide +kernel) ?_
      obtain ⟨hi1, hf⟩ := g_if hf
      refine V_iast (Y := m_X9_clear) (pc := 24) sC_51 hi1 dX9_clear_24 ?_
      refine V_iinc (Y := m_X9_clear) (pc := 25) (y := (x2 + (1 : Int32))) 2 [(2, .int (x2 + (1 : Int32))), (0, .ref (b + 0)), (1, .int x1)] dX9_clear_25 rfl rfl (by decide +kernel) rfl ?_
      refine V_goto (Y := m_X9_clear) (pc := 28) (tgt := 10) dX9_clear_28 (by decide +kernel) ?_
      exact V_sub [1, 2, 0] rfl (ih x1 (x2 + (1 : Int32)) (mset M 51 (ix x2) (0 : Int32)) z  hf)
def f_X9_clear_b0   (M : Mem) : Option (Int32 × Mem) :=
  (f_X0_chosenInAll 48 M).bind fun q1 =>
  f_X9_clear_b10  FU q1.1 (0 : Int32) q1.2
set_option maxRecDepth 20000 in
set_option maxHeartbeats 4000000 in
theorem ok_X9_clear_b0 {l : Launch} {g : Gam} {b : Nat}    (M : Mem) (z : Int32 × Mem)  (hf : f_X9_clear_b0  M = some z) : V l g (wC b) m_X9_clear 0 [(0, .ref (b + 0))] [] M (some (.int z.1)) z.2 := by
  unfold f_X9_clear_b0 at hf
  refine V_aload_n (Y := m_X9_clear) (pc := 0) 0 dX9_clear_0 rfl ?_
  refine V_grL (Y := m_X9_clear) (pc := 1) (x := 48) 1 kX9 sC_0 (by decide +kernel) rfl rfl tw_430 dX9_clear_1 ?_
  obtain ⟨q1, hq1, hf⟩ := g_bind hf
  refine V_cVi (Y := m_X9_clear) (pc := 4) (As := []) yf_X0_chosenInAll kX0 sC_48 (by decide +kernel) (ok_X0_chosenInAll 48 M _ sC_48 hq1) tw_778 tw_779 tw_777 rfl rfl (Nat.le_of_ble_eq_true rfl) dX9_clear_4 ?_
  refine V_istore_n (Y := m_X9_clear) (pc := 7) [(1, .int q1.1), (0, .ref (b + 0))] dX9_clear_7 (by decide +kernel) rfl ?_
  refine V_iconst (Y := m_X9_clear) (pc := 8) (x := (0 : Int32)) dX9_clear_8 (by decide +kernel) ?_
  refine V_istore_n (Y := m_X9_clear) (pc := 9) [(2, .int (0 : Int32)), (1, .int q1.1), (0, .ref (b + 0))] dX9_clear_9 (by decide +kernel) rfl ?_
  exact V_sub [2, 1, 0] rfl (ok_X9_clear_b10  FU q1.1 (0 : Int32) q1.2 z  hf)
def f_X9_clear  (M : Mem) : Option (Int32 × Mem) := f_X9_clear_b0  M
set_option maxRecDepth 20000 in
set_option maxHeartbeats 4000000 in
theorem ok_X9_clear {l : Launch} {g : Gam} {b : Nat} : ∀  (M : Mem) (z : Int32 × Mem), f_X9_clear  M = some z → Cn l g (wC b) m_X9_clear [.ref (b + 0)] M (some (.int z.1)) z.2 := fun  M z  hf => Cn_of (by decide +kernel) (Nat.le_of_ble_eq_true rfl) (V_sub [0] rfl (ok_X9_clear_b0  M z  hf))

abbrev m_X9_areTwo : Mth := (yX9_areTwo, cX9_areTwo, 3, some .boolean, 2)
theorem yf_X9_areTwo : YF m_X9_areTwo 3 := ⟨tw_787, tw_65, by decide +kernel, by decide +kernel⟩
def f_X9_areTwo_b0  (x0 : Int32) (x1 : Int32) (x2 : Int32) (M : Mem) : Option (Int32 × Mem) :=
  (f_X9_isBelow x0 x2 M).bind fun q1 =>
  if q1.1 = 0 then
    some ((0 : Int32), q1.2)
  else
    (f_X9_isBelow x1 x2 q1.2).bind fun q2 =>
    if q2.1 = 0 then
      some ((0 : Int32), q2.2)
    else
      if x0 = x1 then
        some ((0 : Int32), q2.2)
      else
        some ((1 : Int32), q2.2)
set_option maxRecDepth 20000 in
set_option maxHeartbeats 4000000 in
theorem ok_X9_areTwo_b0 {l : Launch} {g : Gam} {b : Nat}   (x0 : Int32) (x1 : Int32) (x2 : Int32) (M : Mem) (z : Int32 × Mem)  (hf : f_X9_areTwo_b0 x0 x1 x2 M = some z) : V l g (wC b) m_X9_areTwo 0 [(0, .int x0), (1, .int x1), (2, .int x2)] [] M (some (.int z.1)) z.2 := by
  unfold f_X9_areTwo_b0 at hf
  refine V_iload_n (Y := m_X9_areTwo) (pc := 0) 0 dX9_areTwo_0 rfl ?_
  refine V_iload_n (Y := m_X9_areTwo) (pc := 1) 2 dX9_areTwo_1 rfl ?_
  obtain ⟨q1, hq1, hf⟩ := g_bind hf
  refine V_cSi (Y := m_X9_areTwo) (pc := 2) (As := [.int x0, .int x2]) yf_X9_isBelow (by decide +kernel) (ok_X9_isBelow x0 x2 M _  hq1) tw_473 tw_472 rfl rfl (Nat.le_of_ble_eq_true rfl) dX9_areTwo_2 ?_
  refine V_if_eq (Y := m_X9_areTwo) (pc := 5) (tgt := 25) dX9_areTwo_5 (by decide +kernel) hf (fun hf => ?_) (fun hf => ?_)
  · refine V_iconst (Y := m_X9_areTwo) (pc := 25) (x := (0 : Int32)) dX9_areTwo_25 (by decide +kernel) ?_
    obtain rfl := Option.some.inj hf
    exact V_zret (Y := m_X9_areTwo) z01_0 rfl dX9_areTwo_26
  · refine V_iload_n (Y := m_X9_areTwo) (pc := 8) 1 dX9_areTwo_8 rfl ?_
    refine V_iload_n (Y := m_X9_areTwo) (pc := 9) 2 dX9_areTwo_9 rfl ?_
    obtain ⟨q2, hq2, hf⟩ := g_bind hf
    refine V_cSi (Y := m_X9_areTwo) (pc := 10) (As := [.int x1, .int x2]) yf_X9_isBelow (by decide +kernel) (ok_X9_isBelow x1 x2 q1.2 _  hq2) tw_473 tw_472 rfl rfl (Nat.le_of_ble_eq_true rfl) dX9_areTwo_10 ?_
    refine V_if_eq (Y := m_X9_areTwo) (pc := 13) (tgt := 25) dX9_areTwo_13 (by decide +kernel) hf (fun hf => ?_) (fun hf => ?_)
    · refine V_iconst (Y := m_X9_areTwo) (pc := 25) (x := (0 : Int32)) dX9_areTwo_25 (by decide +kernel) ?_
      obtain rfl := Option.some.inj hf
      exact V_zret (Y := m_X9_areTwo) z01_0 rfl dX9_areTwo_26
    · refine V_iload_n (Y := m_X9_areTwo) (pc := 16) 0 dX9_areTwo_16 rfl ?_
      refine V_iload_n (Y := m_X9_areTwo) (pc := 17) 1 dX9_areTwo_17 rfl ?_
      refine V_icmp_eq (Y := m_X9_areTwo) (pc := 18) (tgt := 25) dX9_areTwo_18 (by decide +kernel) hf (fun hf => ?_) (fun hf => ?_)
      · refine V_iconst (Y := m_X9_areTwo) (pc := 25) (x := (0 : Int32)) dX9_areTwo_25 (by decide +kernel) ?_
        obtain rfl := Option.some.inj hf
        exact V_zret (Y := m_X9_areTwo) z01_0 rfl dX9_areTwo_26
      · refine V_iconst (Y := m_X9_areTwo) (pc := 21) (x := (1 : Int32)) dX9_areTwo_21 (by decide +kernel) ?_
        refine V_goto (Y := m_X9_areTwo) (pc := 22) (tgt := 26) dX9_areTwo_22 (by decide +kernel) ?_
        obtain rfl := Option.some.inj hf
        exact V_zret (Y := m_X9_areTwo) z01_1 rfl dX9_areTwo_26
def f_X9_areTwo (x0 : Int32) (x1 : Int32) (x2 : Int32) (M : Mem) : Option (Int32 × Mem) := f_X9_areTwo_b0 x0 x1 x2 M
set_option maxRecDepth 20000 in
set_option maxHeartbeats 4000000 in
theorem ok_X9_areTwo {l : Launch} {g : Gam} {b : Nat} : ∀ (x0 : Int32) (x1 : Int32) (x2 : Int32) (M : Mem) (z : Int32 × Mem), f_X9_areTwo x0 x1 x2 M = some z → Cn l g (wC b) m_X9_areTwo [.int x0, .int x1, .int x2] M (some (.int z.1)) z.2 := fun x0 x1 x2 M z  hf => Cn_of (by decide +kernel) (Nat.le_of_ble_eq_true rfl) (V_sub [0, 1, 2] rfl (ok_X9_areTwo_b0 x0 x1 x2 M z  hf))

abbrev m_X9_match : Mth := (yX9_match, cX9_match, 4, some .int, 124)
theorem yf_X9_match : YF m_X9_match 3 := ⟨tw_784, tw_65, by decide +kernel, by decide +kernel⟩
def f_X9_match_b0  (x1 : Int32) (x2 : Int32) (x3 : Int32) (M : Mem) : Option (Int32 × Mem) :=
  (f_X9_areTwo x1 x2 (3 : Int32) M).bind fun q1 =>
  if q1.1 = 0 then
    some ((-1000000001 : Int32), q1.2)
  else
    if ixb x1 3 = true then
    (f_X9_isWithin x3 (-2 : Int32) ((q1.2 51 (ix x1)) - (1 : Int32)) q1.2).bind fun q3 =>
    if q3.1 = 0 then
      some ((-1000000001 : Int32), q3.2)
    else
      (f_X3_find 48 x1 x2 q3.2).bind fun q4 =>
      if x3 = (-2 : Int32) then
        some ((q4.2 5 0), q4.2)
      else
        if x3 = (-1 : Int32) then
          some ((q4.2 5 1), q4.2)
        else
          if ixb x3 5 = true then
          some ((q4.2 6 (ix x3)), q4.2)
          else none
    else none
set_option maxRecDepth 20000 in
set_option maxHeartbeats 4000000 in
theorem ok_X9_match_b0 {l : Launch} {g : Gam} {b : Nat}   (x1 : Int32) (x2 : Int32) (x3 : Int32) (M : Mem) (z : Int32 × Mem)  (hf : f_X9_match_b0 x1 x2 x3 M = some z) : V l g (wC b) m_X9_match 0 [(0, .ref (b + 0)), (1, .int x1), (2, .int x2), (3, .int x3)] [] M (some (.int z.1)) z.2 := by
  unfold f_X9_match_b0 at hf
  refine V_iload_n (Y := m_X9_match) (pc := 0) 1 dX9_match_0 rfl ?_
  refine V_iload_n (Y := m_X9_match) (pc := 1) 2 dX9_match_1 rfl ?_
  refine V_iconst (Y := m_X9_match) (pc := 2) (x := (3 : Int32)) dX9_match_2 (by decide +kernel) ?_
  obtain ⟨q1, hq1, hf⟩ := g_bind hf
  refine V_cSi (Y := m_X9_match) (pc := 3) (As := [.int x1, .int x2, .int (3 : Int32)]) yf_X9_areTwo (by decide +kernel) (ok_X9_areTwo x1 x2 (3 : Int32) M _  hq1) tw_786 tw_785 rfl rfl (Nat.le_of_ble_eq_true rfl) dX9_match_3 ?_
  refine V_if_eq (Y := m_X9_match) (pc := 6) (tgt := 29) dX9_match_6 (by decide +kernel) hf (fun hf => ?_) (fun hf => ?_)
  · refine V_ldc (Y := m_X9_match) (pc := 29) (x := (-1000000001 : Int32)) dX9_match_29 tw_481 ?_
    obtain rfl := Option.some.inj hf
    exact V_iret (Y := m_X9_match) rfl dX9_match_31
  · refine V_iload_n (Y := m_X9_match) (pc := 9) 3 dX9_match_9 rfl ?_
    refine V_bipush (Y := m_X9_match) (pc := 10) (x := (-2 : Int32)) dX9_match_10 (by decide +kernel) ?_
    refine V_aload_n (Y := m_X9_match) (pc := 12) 0 dX9_match_12 rfl ?_
    refine V_grL (Y := m_X9_match) (pc := 13) (x := 48) 1 kX9 sC_0 (by decide +kernel) rfl rfl tw_430 dX9_match_13 ?_
    refine V_grL (Y := m_X9_match) (pc := 16) (x := 51) 4 kX0 sC_48 (by decide +kernel) rfl rfl tw_341 dX9_match_16 ?_
    refine V_iload_n (Y := m_X9_match) (pc := 19) 1 dX9_match_19 rfl ?_
    obtain ⟨hi2, hf⟩ := g_if hf
    refine V_iald (Y := m_X9_match) (pc := 20) sC_51 hi2 dX9_match_20 ?_
    refine V_iconst (Y := m_X9_match) (pc := 21) (x := (1 : Int32)) dX9_match_21 (by decide +kernel) ?_
    refine V_isub (Y := m_X9_match) (pc := 22) dX9_match_22 ?_
    obtain ⟨q3, hq3, hf⟩ := g_bind hf
    refine V_cSi (Y := m_X9_match) (pc := 23) (As := [.int x3, .int (-2 : Int32), .int ((q1.2 51 (ix x1)) - (1 : Int32))]) yf_X9_isWithin (by decide +kernel) (ok_X9_isWithin x3 (-2 : Int32) ((q1.2 51 (ix x1)) - (1 : Int32)) q1.2 _  hq3) tw_479 tw_478 rfl rfl (Nat.le_of_ble_eq_true rfl) dX9_match_23 ?_
    refine V_if_ne (Y := m_X9_match) (pc := 26) (tgt := 32) dX9_match_26 (by decide +kernel) hf (fun hf => ?_) (fun hf => ?_)
    · refine V_aload_n (Y := m_X9_match) (pc := 32) 0 dX9_match_32 rfl ?_
      refine V_grL (Y := m_X9_match) (pc := 33) (x := 5) 4 kX9 sC_0 (by decide +kernel) rfl rfl tw_433 dX9_match_33 ?_
      refine V_aload_n (Y := m_X9_match) (pc := 36) 0 dX9_match_36 rfl ?_
      refine V_grL (Y := m_X9_match) (pc := 37) (x := 48) 1 kX9 sC_0 (by decide +kernel) rfl rfl tw_430 dX9_match_37 ?_
      refine V_iload_n (Y := m_X9_match) (pc := 40) 1 dX9_match_40 rfl ?_
      refine V_iload_n (Y := m_X9_match) (pc := 41) 2 dX9_match_41 rfl ?_
      obtain ⟨q4, hq4, hf⟩ := g_bind hf
      refine V_cVv (Y := m_X9_match) (pc := 42) (As := [.ref (b + 48), .int x1, .int x2]) yf_X3_find kX3 sC_5 (by decide +kernel) (ok_X3_find 48 x1 x2 q3.2 _ sC_48 hq4) tw_789 tw_790 tw_788 rfl rfl (Nat.le_of_ble_eq_true rfl) dX9_match_42 ?_
      refine V_iload_n (Y := m_X9_match) (pc := 45) 3 dX9_match_45 rfl ?_
      refine V_bipush (Y := m_X9_match) (pc := 46) (x := (-2 : Int32)) dX9_match_46 (by decide +kernel) ?_
      refine V_icmp_ne (Y := m_X9_match) (pc := 48) (tgt := 59) dX9_match_48 (by decide +kernel) hf (fun hf => ?_) (fun hf => ?_)
      · refine V_iload_n (Y := m_X9_match) (pc := 59) 3 dX9_match_59 rfl ?_
        refine V_iconst (Y := m_X9_match) (pc := 60) (x := (-1 : Int32)) dX9_match_60 (by decide +kernel) ?_
        refine V_icmp_ne (Y := m_X9_match) (pc := 61) (tgt := 74) dX9_match_61 (by decide +kernel) hf (fun hf => ?_) (fun hf => ?_)
        · refine V_aload_n (Y := m_X9_match) (pc := 74) 0 dX9_match_74 rfl ?_
          refine V_grL (Y := m_X9_match) (pc := 75) (x := 5) 4 kX9 sC_0 (by decide +kernel) rfl rfl tw_433 dX9_match_75 ?_
          refine V_grL (Y := m_X9_match) (pc := 78) (x := 6) 2 kX3 sC_5 (by decide +kernel) rfl rfl tw_182 dX9_match_78 ?_
          refine V_iload_n (Y := m_X9_match) (pc := 81) 3 dX9_match_81 rfl ?_
          obtain ⟨hi5, hf⟩ := g_if hf
          refine V_iald (Y := m_X9_match) (pc := 82) sC_6 hi5 dX9_match_82 ?_
          obtain rfl := Option.some.inj hf
          exact V_iret (Y := m_X9_match) rfl dX9_match_83
        · refine V_aload_n (Y := m_X9_match) (pc := 64) 0 dX9_match_64 rfl ?_
          refine V_grL (Y := m_X9_match) (pc := 65) (x := 5) 4 kX9 sC_0 (by decide +kernel) rfl rfl tw_433 dX9_match_65 ?_
          refine V_gi (Y := m_X9_match) (pc := 68) 1 kX3 sC_5 (by decide +kernel) rfl tw_180 dX9_match_68 ?_
          refine V_goto (Y := m_X9_match) (pc := 71) (tgt := 83) dX9_match_71 (by decide +kernel) ?_
          obtain rfl := Option.some.inj hf
          exact V_iret (Y := m_X9_match) rfl dX9_match_83
      · refine V_aload_n (Y := m_X9_match) (pc := 51) 0 dX9_match_51 rfl ?_
        refine V_grL (Y := m_X9_match) (pc := 52) (x := 5) 4 kX9 sC_0 (by decide +kernel) rfl rfl tw_433 dX9_match_52 ?_
        refine V_gi (Y := m_X9_match) (pc := 55) 0 kX3 sC_5 (by decide +kernel) rfl tw_178 dX9_match_55 ?_
        obtain rfl := Option.some.inj hf
        exact V_iret (Y := m_X9_match) rfl dX9_match_58
    · refine V_ldc (Y := m_X9_match) (pc := 29) (x := (-1000000001 : Int32)) dX9_match_29 tw_481 ?_
      obtain rfl := Option.some.inj hf
      exact V_iret (Y := m_X9_match) rfl dX9_match_31
def f_X9_match (x1 : Int32) (x2 : Int32) (x3 : Int32) (M : Mem) : Option (Int32 × Mem) := f_X9_match_b0 x1 x2 x3 M
set_option maxRecDepth 20000 in
set_option maxHeartbeats 4000000 in
theorem ok_X9_match {l : Launch} {g : Gam} {b : Nat} : ∀ (x1 : Int32) (x2 : Int32) (x3 : Int32) (M : Mem) (z : Int32 × Mem), f_X9_match x1 x2 x3 M = some z → Cn l g (wC b) m_X9_match [.ref (b + 0), .int x1, .int x2, .int x3] M (some (.int z.1)) z.2 := fun x1 x2 x3 M z  hf => Cn_of (by decide +kernel) (Nat.le_of_ble_eq_true rfl) (V_sub [0, 1, 2, 3] rfl (ok_X9_match_b0 x1 x2 x3 M z  hf))

abbrev m_X9_join : Mth := (yX9_join, cX9_join, 7, some .int, 124)
theorem yf_X9_join : YF m_X9_join 2 := ⟨tw_814, tw_65, by decide +kernel, by decide +kernel⟩
def f_X9_join_b121 (k30 : Int32 → Int32 → Int32 → Mem → Option (Int32 × Mem)) (x1 : Int32) (x3 : Int32) (x4 : Int32) (M : Mem) : Option (Int32 × Mem) :=
  k30 x1 x3 (x4 + (1 : Int32)) M
set_option maxRecDepth 20000 in
set_option maxHeartbeats 4000000 in
theorem ok_X9_join_b121 {l : Launch} {g : Gam} {b : Nat} (k30 : Int32 → Int32 → Int32 → Mem → Option (Int32 × Mem)) (hk30 : ∀ (x1 : Int32) (x3 : Int32) (x4 : Int32) (M : Mem) (z : Int32 × Mem), k30 x1 x3 x4 M = some z → V l g (wC b) m_X9_join 30 [(0, .ref (b + 0)), (1, .int x1), (3, .int x3), (4, .int x4)] [] M (some (.int z.1)) z.2) (x1 : Int32) (x3 : Int32) (x4 : Int32) (M : Mem) (z : Int32 × Mem)  (hf : f_X9_join_b121 k30 x1 x3 x4 M = some z) : V l g (wC b) m_X9_join 121 [(0, .ref (b + 0)), (1, .int x1), (3, .int x3), (4, .int x4)] [] M (some (.int z.1)) z.2 := by
  unfold f_X9_join_b121 at hf
  refine V_iinc (Y := m_X9_join) (pc := 121) (y := (x4 + (1 : Int32))) 3 [(4, .int (x4 + (1 : Int32))), (0, .ref (b + 0)), (1, .int x1), (3, .int x3)] dX9_join_121 rfl rfl (by decide +kernel) rfl ?_
  refine V_goto (Y := m_X9_join) (pc := 124) (tgt := 30) dX9_join_124 (by decide +kernel) ?_
  exact V_sub [1, 2, 3, 0] rfl (hk30 x1 x3 (x4 + (1 : Int32)) M z  hf)
def f_X9_join_b30  : Nat → Int32 → Int32 → Int32 → Mem → Option (Int32 × Mem)
  | 0, _, _, _, _ => none
  | n + 1, x1, x3, x4, M =>
    if ixb x1 3 = true then
    if (M 51 (ix x1)) ≤ x4 then
      some (x3, M)
    else
      (f_X0_chosenMark 48 x1 x4 M).bind fun q2 =>
      if ixb x4 5 = true then
      if (q2.2 q2.1 5) = (-1000000005 : Int32) then
        f_X9_join_b121 (f_X9_join_b30  n) x1 x3 x4 q2.2
      else
        if (q2.2 6 (ix x4)) = (-1000000005 : Int32) then
          f_X9_join_b121 (f_X9_join_b30  n) x1 x3 x4 q2.2
        else
          if ixb (q2.2 6 (ix x4)) 24 = true then
          if (q2.2 (rfC 49 (ix (q2.2 6 (ix x4)))) 5) = (q2.2 q2.1 5) then
            f_X9_join_b121 (f_X9_join_b30  n) x1 x3 x4 q2.2
          else
            if ixb (q2.2 6 (ix x4)) 24 = true then
            f_X9_join_b121 (f_X9_join_b30  n) x1 (x3 + (1 : Int32)) x4 (mset q2.2 (rfC 49 (ix (q2.2 6 (ix x4)))) 5 (q2.2 q2.1 5))
            else none
          else none
      else none
    else none
set_option maxRecDepth 20000 in
set_option maxHeartbeats 4000000 in
theorem ok_X9_join_b30 {l : Launch} {g : Gam} {b : Nat}   : ∀ (n : Nat) (x1 : Int32) (x3 : Int32) (x4 : Int32) (M : Mem) (z : Int32 × Mem), f_X9_join_b30  n x1 x3 x4 M = some z → V l g (wC b) m_X9_join 30 [(0, .ref (b + 0)), (1, .int x1), (3, .int x3), (4, .int x4)] [] M (some (.int z.1)) z.2 := by
  intro n
  induction n with
  | zero =>
    intro x1 x3 x4 M z  hf
    cases hf
  | succ n ih =>
    intro x1 x3 x4 M z  hf
    rw [f_X9_join_b30] at hf
    refine V_iload (Y := m_X9_join) (pc := 30) 3 dX9_join_30 rfl ?_
    refine V_aload_n (Y := m_X9_join) (pc := 32) 0 dX9_join_32 rfl ?_
    refine V_grL (Y := m_X9_join) (pc := 33) (x := 48) 1 kX9 sC_0 (by decide +kernel) rfl rfl tw_430 dX9_join_33 ?_
    refine V_grL (Y := m_X9_join) (pc := 36) (x := 51) 4 kX0 sC_48 (by decide +kernel) rfl rfl tw_341 dX9_join_36 ?_
    refine V_iload_n (Y := m_X9_join) (pc := 39) 1 dX9_join_39 rfl ?_
    obtain ⟨hi1, hf⟩ := g_if hf
    refine V_iald (Y := m_X9_join) (pc := 40) sC_51 hi1 dX9_join_40 ?_
    refine V_icmp_ge (Y := m_X9_join) (pc := 41) (tgt := 127) dX9_join_41 (by decide +kernel) hf (fun hf => ?_) (fun hf => ?_)
    · refine V_iload_n (Y := m_X9_join) (pc := 127) 2 dX9_join_127 rfl ?_
      obtain rfl := Option.some.inj hf
      exact V_iret (Y := m_X9_join) rfl dX9_join_128
    · refine V_aload_n (Y := m_X9_join) (pc := 44) 0 dX9_join_44 rfl ?_
      refine V_grL (Y := m_X9_join) (pc := 45) (x := 48) 1 kX9 sC_0 (by decide +kernel) rfl rfl tw_430 dX9_join_45 ?_
      refine V_iload_n (Y := m_X9_join) (pc := 48) 1 dX9_join_48 rfl ?_
      refine V_iload (Y := m_X9_join) (pc := 49) 3 dX9_join_49 rfl ?_
      obtain ⟨q2, hq2, hf⟩ := g_bind hf
      refine V_cVr (Y := m_X9_join) (pc := 51) (As := [.int x1, .int x4]) yf_X0_chosenMark kX0 sC_48 (by decide +kernel) (ok_X0_chosenMark 48 x1 x4 M _ sC_48 hq2) tw_793 tw_794 tw_815 rfl rfl (Nat.le_of_ble_eq_true rfl) dX9_join_51 ?_
      refine V_gi (Y := m_X9_join) (pc := 54) 5 kX2 (ty_X0_chosenMark 48 x1 x4 M _ sC_48 hq2) (by decide +kernel) rfl tw_308 dX9_join_54 ?_
      refine V_istore (Y := m_X9_join) (pc := 57) [(5, .int (q2.2 q2.1 5)), (0, .ref (b + 0)), (1, .int x1), (3, .int x3), (4, .int x4)] dX9_join_57 (by decide +kernel) rfl ?_
      refine V_aload_n (Y := m_X9_join) (pc := 59) 1 dX9_join_59 rfl ?_
      refine V_grL (Y := m_X9_join) (pc := 60) (x := 5) 4 kX9 sC_0 (by decide +kernel) rfl rfl tw_433 dX9_join_60 ?_
      refine V_grL (Y := m_X9_join) (pc := 63) (x := 6) 2 kX3 sC_5 (by decide +kernel) rfl rfl tw_182 dX9_join_63 ?_
      refine V_iload (Y := m_X9_join) (pc := 66) 4 dX9_join_66 rfl ?_
      obtain ⟨hi3, hf⟩ := g_if hf
      refine V_iald (Y := m_X9_join) (pc := 68) sC_6 hi3 dX9_join_68 ?_
      refine V_istore (Y := m_X9_join) (pc := 69) [(6, .int (q2.2 6 (ix x4))), (5, .int (q2.2 q2.1 5)), (0, .ref (b + 0)), (1, .int x1), (3, .int x3), (4, .int x4)] dX9_join_69 (by decide +kernel) rfl ?_
      refine V_iload (Y := m_X9_join) (pc := 71) 1 dX9_join_71 rfl ?_
      refine V_ldc (Y := m_X9_join) (pc := 73) (x := (-1000000005 : Int32)) dX9_join_73 tw_562 ?_
      refine V_icmp_eq (Y := m_X9_join) (pc := 75) (tgt := 121) dX9_join_75 (by decide +kernel) hf (fun hf => ?_) (fun hf => ?_)
      · exact V_sub [2, 3, 4, 5] rfl (ok_X9_join_b121 (f_X9_join_b30  n) ih x1 x3 x4 q2.2 z  hf)
      · refine V_iload (Y := m_X9_join) (pc := 78) 0 dX9_join_78 rfl ?_
        refine V_ldc (Y := m_X9_join) (pc := 80) (x := (-1000000005 : Int32)) dX9_join_80 tw_562 ?_
        refine V_icmp_eq (Y := m_X9_join) (pc := 82) (tgt := 121) dX9_join_82 (by decide +kernel) hf (fun hf => ?_) (fun hf => ?_)
        · exact V_sub [2, 3, 4, 5] rfl (ok_X9_join_b121 (f_X9_join_b30  n) ih x1 x3 x4 q2.2 z  hf)
        · refine V_aload_n (Y := m_X9_join) (pc := 85) 2 dX9_join_85 rfl ?_
          refine V_grL (Y := m_X9_join) (pc := 86) (x := 48) 1 kX9 sC_0 (by decide +kernel) rfl rfl tw_430 dX9_join_86 ?_
          refine V_grL (Y := m_X9_join) (pc := 89) (x := 49) 0 kX0 sC_48 (by decide +kernel) rfl rfl tw_332 dX9_join_89 ?_
          refine V_iload (Y := m_X9_join) (pc := 92) 0 dX9_join_92 rfl ?_
          obtain ⟨hi4, hf⟩ := g_if hf
          refine V_aald (Y := m_X9_join) (pc := 94) 1 rfl sC_49 hi4 dX9_join_94 ?_
          refine V_gi (Y := m_X9_join) (pc := 95) 5 kX2 (wtC.2 _ _ _ sC_49 _ (ixb_lt hi4)) (by decide +kernel) rfl tw_308 dX9_join_95 ?_
          refine V_iload (Y := m_X9_join) (pc := 98) 1 dX9_join_98 rfl ?_
          refine V_icmp_eq (Y := m_X9_join) (pc := 100) (tgt := 121) dX9_join_100 (by decide +kernel) hf (fun hf => ?_) (fun hf => ?_)
          · exact V_sub [2, 3, 4, 5] rfl (ok_X9_join_b121 (f_X9_join_b30  n) ih x1 x3 x4 q2.2 z  hf)
          · refine V_aload_n (Y := m_X9_join) (pc := 103) 2 dX9_join_103 rfl ?_
            refine V_grL (Y := m_X9_join) (pc := 104) (x := 48) 1 kX9 sC_0 (by decide +kernel) rfl rfl tw_430 dX9_join_104 ?_
            refine V_grL (Y := m_X9_join) (pc := 107) (x := 49) 0 kX0 sC_48 (by decide +kernel) rfl rfl tw_332 dX9_join_107 ?_
            refine V_iload (Y := m_X9_join) (pc := 110) 0 dX9_join_110 rfl ?_
            obtain ⟨hi5, hf⟩ := g_if hf
            refine V_aald (Y := m_X9_join) (pc := 112) 1 rfl sC_49 hi5 dX9_join_112 ?_
            refine V_iload (Y := m_X9_join) (pc := 113) 1 dX9_join_113 rfl ?_
            refine V_pi (Y := m_X9_join) (pc := 115) 5 kX2 (wtC.2 _ _ _ sC_49 _ (ixb_lt hi5)) (by decide +kernel) rfl rfl rfl tw_308 dX9_join_115 ?_
            refine V_iinc (Y := m_X9_join) (pc := 118) (y := (x3 + (1 : Int32))) 4 [(3, .int (x3 + (1 : Int32))), (6, .int (q2.2 6 (ix x4))), (5, .int (q2.2 q2.1 5)), (0, .ref (b + 0)), (1, .int x1), (4, .int x4)] dX9_join_118 rfl rfl (by decide +kernel) rfl ?_
            exact V_sub [3, 4, 0, 5] rfl (ok_X9_join_b121 (f_X9_join_b30  n) ih x1 (x3 + (1 : Int32)) x4 (mset q2.2 (rfC 49 (ix (q2.2 6 (ix x4)))) 5 (q2.2 q2.1 5)) z  hf)
def f_X9_join_b0  (x1 : Int32) (x2 : Int32) (M : Mem) : Option (Int32 × Mem) :=
  (f_X9_areTwo x1 x2 (3 : Int32) M).bind fun q1 =>
  if q1.1 = 0 then
    some ((-1000000001 : Int32), q1.2)
  else
    (f_X3_find 48 x1 x2 q1.2).bind fun q2 =>
    f_X9_join_b30  FU x1 (0 : Int32) (0 : Int32) q2.2
set_option maxRecDepth 20000 in
set_option maxHeartbeats 4000000 in
theorem ok_X9_join_b0 {l : Launch} {g : Gam} {b : Nat}   (x1 : Int32) (x2 : Int32) (M : Mem) (z : Int32 × Mem)  (hf : f_X9_join_b0 x1 x2 M = some z) : V l g (wC b) m_X9_join 0 [(0, .ref (b + 0)), (1, .int x1), (2, .int x2)] [] M (some (.int z.1)) z.2 := by
  unfold f_X9_join_b0 at hf
  refine V_iload_n (Y := m_X9_join) (pc := 0) 1 dX9_join_0 rfl ?_
  refine V_iload_n (Y := m_X9_join) (pc := 1) 2 dX9_join_1 rfl ?_
  refine V_iconst (Y := m_X9_join) (pc := 2) (x := (3 : Int32)) dX9_join_2 (by decide +kernel) ?_
  obtain ⟨q1, hq1, hf⟩ := g_bind hf
  refine V_cSi (Y := m_X9_join) (pc := 3) (As := [.int x1, .int x2, .int (3 : Int32)]) yf_X9_areTwo (by decide +kernel) (ok_X9_areTwo x1 x2 (3 : Int32) M _  hq1) tw_786 tw_785 rfl rfl (Nat.le_of_ble_eq_true rfl) dX9_join_3 ?_
  refine V_if_ne (Y := m_X9_join) (pc := 6) (tgt := 12) dX9_join_6 (by decide +kernel) hf (fun hf => ?_) (fun hf => ?_)
  · refine V_aload_n (Y := m_X9_join) (pc := 12) 0 dX9_join_12 rfl ?_
    refine V_grL (Y := m_X9_join) (pc := 13) (x := 5) 4 kX9 sC_0 (by decide +kernel) rfl rfl tw_433 dX9_join_13 ?_
    refine V_aload_n (Y := m_X9_join) (pc := 16) 0 dX9_join_16 rfl ?_
    refine V_grL (Y := m_X9_join) (pc := 17) (x := 48) 1 kX9 sC_0 (by decide +kernel) rfl rfl tw_430 dX9_join_17 ?_
    refine V_iload_n (Y := m_X9_join) (pc := 20) 1 dX9_join_20 rfl ?_
    refine V_iload_n (Y := m_X9_join) (pc := 21) 2 dX9_join_21 rfl ?_
    obtain ⟨q2, hq2, hf⟩ := g_bind hf
    refine V_cVv (Y := m_X9_join) (pc := 22) (As := [.ref (b + 48), .int x1, .int x2]) yf_X3_find kX3 sC_5 (by decide +kernel) (ok_X3_find 48 x1 x2 q1.2 _ sC_48 hq2) tw_789 tw_790 tw_788 rfl rfl (Nat.le_of_ble_eq_true rfl) dX9_join_22 ?_
    refine V_iconst (Y := m_X9_join) (pc := 25) (x := (0 : Int32)) dX9_join_25 (by decide +kernel) ?_
    refine V_istore_n (Y := m_X9_join) (pc := 26) [(3, .int (0 : Int32)), (0, .ref (b + 0)), (1, .int x1), (2, .int x2)] dX9_join_26 (by decide +kernel) rfl ?_
    refine V_iconst (Y := m_X9_join) (pc := 27) (x := (0 : Int32)) dX9_join_27 (by decide +kernel) ?_
    refine V_istore (Y := m_X9_join) (pc := 28) [(4, .int (0 : Int32)), (3, .int (0 : Int32)), (0, .ref (b + 0)), (1, .int x1), (2, .int x2)] dX9_join_28 (by decide +kernel) rfl ?_
    exact V_sub [2, 3, 1, 0] rfl (ok_X9_join_b30  FU x1 (0 : Int32) (0 : Int32) q2.2 z  hf)
  · refine V_ldc (Y := m_X9_join) (pc := 9) (x := (-1000000001 : Int32)) dX9_join_9 tw_481 ?_
    obtain rfl := Option.some.inj hf
    exact V_iret (Y := m_X9_join) rfl dX9_join_11
def f_X9_join (x1 : Int32) (x2 : Int32) (M : Mem) : Option (Int32 × Mem) := f_X9_join_b0 x1 x2 M
set_option maxRecDepth 20000 in
set_option maxHeartbeats 4000000 in
theorem ok_X9_join {l : Launch} {g : Gam} {b : Nat} : ∀ (x1 : Int32) (x2 : Int32) (M : Mem) (z : Int32 × Mem), f_X9_join x1 x2 M = some z → Cn l g (wC b) m_X9_join [.ref (b + 0), .int x1, .int x2] M (some (.int z.1)) z.2 := fun x1 x2 M z  hf => Cn_of (by decide +kernel) (Nat.le_of_ble_eq_true rfl) (V_sub [0, 1, 2] rfl (ok_X9_join_b0 x1 x2 M z  hf))

abbrev m_X9_passage : Mth := (yX9_passage, cX9_passage, 4, some .int, 3)
theorem yf_X9_passage : YF m_X9_passage 3 := ⟨tw_819, tw_65, by decide +kernel, by decide +kernel⟩
def f_X9_passage_bc70_1   (M : Mem) : Option (Int32 × Mem) :=
  some ((M 48 11), M)
set_option maxRecDepth 20000 in
set_option maxHeartbeats 4000000 in
theorem ok_X9_passage_bc70_1 {l : Launch} {g : Gam} {b : Nat}    (M : Mem) (z : Int32 × Mem)  (hf : f_X9_passage_bc70_1  M = some z) : V l g (wC b) m_X9_passage 70 [(0, .ref (b + 0))] [] M (some (.int z.1)) z.2 := by
  unfold f_X9_passage_bc70_1 at hf
  refine V_aload_n (Y := m_X9_passage) (pc := 70) 0 dX9_passage_70 rfl ?_
  refine V_grL (Y := m_X9_passage) (pc := 71) (x := 48) 1 kX9 sC_0 (by decide +kernel) rfl rfl tw_430 dX9_passage_71 ?_
  refine V_gi (Y := m_X9_passage) (pc := 74) 11 kX0 sC_48 (by decide +kernel) rfl tw_357 dX9_passage_74 ?_
  obtain rfl := Option.some.inj hf
  exact V_iret (Y := m_X9_passage) rfl dX9_passage_77
def f_X9_passage_b0  (x1 : Int32) (x2 : Int32) (x3 : Int32) (M : Mem) : Option (Int32 × Mem) :=
  (f_X9_areTwo x1 x2 (9 : Int32) M).bind fun q1 =>
  if q1.1 = 0 then
    some ((-1000000001 : Int32), q1.2)
  else
    (f_X9_isBelow x3 (4 : Int32) q1.2).bind fun q2 =>
    if q2.1 = 0 then
      some ((-1000000001 : Int32), q2.2)
    else
      if (q2.2 48 11) < (20 : Int32) then
        (f_X9_passageCode x1 x2 x3 q2.2).bind fun q3 =>
        if ixb (q2.2 48 11) 20 = true then
        f_X9_passage_bc70_1   (mset (mset q3.2 52 (ix (q2.2 48 11)) q3.1) 48 11 (((mset q3.2 52 (ix (q2.2 48 11)) q3.1) 48 11) + (1 : Int32)))
        else none
      else
        some ((-1000000003 : Int32), q2.2)
set_option maxRecDepth 20000 in
set_option maxHeartbeats 4000000 in
theorem ok_X9_passage_b0 {l : Launch} {g : Gam} {b : Nat}   (x1 : Int32) (x2 : Int32) (x3 : Int32) (M : Mem) (z : Int32 × Mem)  (hf : f_X9_passage_b0 x1 x2 x3 M = some z) : V l g (wC b) m_X9_passage 0 [(0, .ref (b + 0)), (1, .int x1), (2, .int x2), (3, .int x3)] [] M (some (.int z.1)) z.2 := by
  unfold f_X9_passage_b0 at hf
  refine V_iload_n (Y := m_X9_passage) (pc := 0) 1 dX9_passage_0 rfl ?_
  refine V_iload_n (Y := m_X9_passage) (pc := 1) 2 dX9_passage_1 rfl ?_
  refine V_bipush (Y := m_X9_passage) (pc := 2) (x := (9 : Int32)) dX9_passage_2 (by decide +kernel) ?_
  obtain ⟨q1, hq1, hf⟩ := g_bind hf
  refine V_cSi (Y := m_X9_passage) (pc := 4) (As := [.int x1, .int x2, .int (9 : Int32)]) yf_X9_areTwo (by decide +kernel) (ok_X9_areTwo x1 x2 (9 : Int32) M _  hq1) tw_786 tw_785 rfl rfl (Nat.le_of_ble_eq_true rfl) dX9_passage_4 ?_
  refine V_if_eq (Y := m_X9_passage) (pc := 7) (tgt := 18) dX9_passage_7 (by decide +kernel) hf (fun hf => ?_) (fun hf => ?_)
  · refine V_ldc (Y := m_X9_passage) (pc := 18) (x := (-1000000001 : Int32)) dX9_passage_18 tw_481 ?_
    obtain rfl := Option.some.inj hf
    exact V_iret (Y := m_X9_passage) rfl dX9_passage_20
  · refine V_iload_n (Y := m_X9_passage) (pc := 10) 3 dX9_passage_10 rfl ?_
    refine V_iconst (Y := m_X9_passage) (pc := 11) (x := (4 : Int32)) dX9_passage_11 (by decide +kernel) ?_
    obtain ⟨q2, hq2, hf⟩ := g_bind hf
    refine V_cSi (Y := m_X9_passage) (pc := 12) (As := [.int x3, .int (4 : Int32)]) yf_X9_isBelow (by decide +kernel) (ok_X9_isBelow x3 (4 : Int32) q1.2 _  hq2) tw_473 tw_472 rfl rfl (Nat.le_of_ble_eq_true rfl) dX9_passage_12 ?_
    refine V_if_ne (Y := m_X9_passage) (pc := 15) (tgt := 21) dX9_passage_15 (by decide +kernel) hf (fun hf => ?_) (fun hf => ?_)
    · refine V_aload_n (Y := m_X9_passage) (pc := 21) 0 dX9_passage_21 rfl ?_
      refine V_grL (Y := m_X9_passage) (pc := 22) (x := 48) 1 kX9 sC_0 (by decide +kernel) rfl rfl tw_430 dX9_passage_22 ?_
      refine V_gi (Y := m_X9_passage) (pc := 25) 11 kX0 sC_48 (by decide +kernel) rfl tw_357 dX9_passage_25 ?_
      refine V_bipush (Y := m_X9_passage) (pc := 28) (x := (20 : Int32)) dX9_passage_28 (by decide +kernel) ?_
      refine V_icmp_lt (Y := m_X9_passage) (pc := 30) (tgt := 36) dX9_passage_30 (by decide +kernel) hf (fun hf => ?_) (fun hf => ?_)
      · refine V_aload_n (Y := m_X9_passage) (pc := 36) 0 dX9_passage_36 rfl ?_
        refine V_grL (Y := m_X9_passage) (pc := 37) (x := 48) 1 kX9 sC_0 (by decide +kernel) rfl rfl tw_430 dX9_passage_37 ?_
        refine V_grL (Y := m_X9_passage) (pc := 40) (x := 52) 5 kX0 sC_48 (by decide +kernel) rfl rfl tw_343 dX9_passage_40 ?_
        refine V_aload_n (Y := m_X9_passage) (pc := 43) 0 dX9_passage_43 rfl ?_
        refine V_grL (Y := m_X9_passage) (pc := 44) (x := 48) 1 kX9 sC_0 (by decide +kernel) rfl rfl tw_430 dX9_passage_44 ?_
        refine V_gi (Y := m_X9_passage) (pc := 47) 11 kX0 sC_48 (by decide +kernel) rfl tw_357 dX9_passage_47 ?_
        refine V_iload_n (Y := m_X9_passage) (pc := 50) 1 dX9_passage_50 rfl ?_
        refine V_iload_n (Y := m_X9_passage) (pc := 51) 2 dX9_passage_51 rfl ?_
        refine V_iload_n (Y := m_X9_passage) (pc := 52) 3 dX9_passage_52 rfl ?_
        obtain ⟨q3, hq3, hf⟩ := g_bind hf
        refine V_cSi (Y := m_X9_passage) (pc := 53) (As := [.int x1, .int x2, .int x3]) yf_X9_passageCode (by decide +kernel) (ok_X9_passageCode x1 x2 x3 q2.2 _  hq3) tw_821 tw_820 rfl rfl (Nat.le_of_ble_eq_true rfl) dX9_passage_53 ?_
        obtain ⟨hi4, hf⟩ := g_if hf
        refine V_iast (Y := m_X9_passage) (pc := 56) sC_52 hi4 dX9_passage_56 ?_
        refine V_aload_n (Y := m_X9_passage) (pc := 57) 0 dX9_passage_57 rfl ?_
        refine V_grL (Y := m_X9_passage) (pc := 58) (x := 48) 1 kX9 sC_0 (by decide +kernel) rfl rfl tw_430 dX9_passage_58 ?_
        refine V_dup (Y := m_X9_passage) (pc := 61) dX9_passage_61 rfl ?_
        refine V_gi (Y := m_X9_passage) (pc := 62) 11 kX0 sC_48 (by decide +kernel) rfl tw_357 dX9_passage_62 ?_
        refine V_iconst (Y := m_X9_passage) (pc := 65) (x := (1 : Int32)) dX9_passage_65 (by decide +kernel) ?_
        refine V_iadd (Y := m_X9_passage) (pc := 66) dX9_passage_66 ?_
        refine V_pi (Y := m_X9_passage) (pc := 67) 11 kX0 sC_48 (by decide +kernel) rfl rfl rfl tw_357 dX9_passage_67 ?_
        exact V_sub [0] rfl (ok_X9_passage_bc70_1   (mset (mset q3.2 52 (ix (q2.2 48 11)) q3.1) 48 11 (((mset q3.2 52 (ix (q2.2 48 11)) q3.1) 48 11) + (1 : Int32))) z  hf)
      · refine V_ldc (Y := m_X9_passage) (pc := 33) (x := (-1000000003 : Int32)) dX9_passage_33 tw_482 ?_
        obtain rfl := Option.some.inj hf
        exact V_iret (Y := m_X9_passage) rfl dX9_passage_35
    · refine V_ldc (Y := m_X9_passage) (pc := 18) (x := (-1000000001 : Int32)) dX9_passage_18 tw_481 ?_
      obtain rfl := Option.some.inj hf
      exact V_iret (Y := m_X9_passage) rfl dX9_passage_20
def f_X9_passage (x1 : Int32) (x2 : Int32) (x3 : Int32) (M : Mem) : Option (Int32 × Mem) := f_X9_passage_b0 x1 x2 x3 M
set_option maxRecDepth 20000 in
set_option maxHeartbeats 4000000 in
theorem ok_X9_passage {l : Launch} {g : Gam} {b : Nat} : ∀ (x1 : Int32) (x2 : Int32) (x3 : Int32) (M : Mem) (z : Int32 × Mem), f_X9_passage x1 x2 x3 M = some z → Cn l g (wC b) m_X9_passage [.ref (b + 0), .int x1, .int x2, .int x3] M (some (.int z.1)) z.2 := fun x1 x2 x3 M z  hf => Cn_of (by decide +kernel) (Nat.le_of_ble_eq_true rfl) (V_sub [0, 1, 2, 3] rfl (ok_X9_passage_b0 x1 x2 x3 M z  hf))

abbrev m_X9_between : Mth := (yX9_between, cX9_between, 7, some .int, 3)
theorem yf_X9_between : YF m_X9_between 2 := ⟨tw_828, tw_65, by decide +kernel, by decide +kernel⟩
def f_X9_between_b80  (s0 : Int32) (s1 : Int32) (M : Mem) : Option (Int32 × Mem) :=
  some ((s1 + s0), M)
set_option maxRecDepth 20000 in
set_option maxHeartbeats 4000000 in
theorem ok_X9_between_b80 {l : Launch} {g : Gam} {b : Nat}   (s0 : Int32) (s1 : Int32) (M : Mem) (z : Int32 × Mem)  (hf : f_X9_between_b80 s0 s1 M = some z) : V l g (wC b) m_X9_between 80 [] [.int s0, .int s1] M (some (.int z.1)) z.2 := by
  unfold f_X9_between_b80 at hf
  refine V_iadd (Y := m_X9_between) (pc := 80) dX9_between_80 ?_
  obtain rfl := Option.some.inj hf
  exact V_iret (Y := m_X9_between) rfl dX9_between_81
def f_X9_between_b70  (x4 : Int32) (s0 : Int32) (M : Mem) : Option (Int32 × Mem) :=
  if x4 = 0 then
    f_X9_between_b80  (0 : Int32) s0 M
  else
    f_X9_between_b80  (1 : Int32) s0 M
set_option maxRecDepth 20000 in
set_option maxHeartbeats 4000000 in
theorem ok_X9_between_b70 {l : Launch} {g : Gam} {b : Nat}   (x4 : Int32) (s0 : Int32) (M : Mem) (z : Int32 × Mem)  (hf : f_X9_between_b70 x4 s0 M = some z) : V l g (wC b) m_X9_between 70 [(4, .int x4)] [.int s0] M (some (.int z.1)) z.2 := by
  unfold f_X9_between_b70 at hf
  refine V_iload (Y := m_X9_between) (pc := 70) 0 dX9_between_70 rfl ?_
  refine V_if_eq (Y := m_X9_between) (pc := 72) (tgt := 79) dX9_between_72 (by decide +kernel) hf (fun hf => ?_) (fun hf => ?_)
  · refine V_iconst (Y := m_X9_between) (pc := 79) (x := (0 : Int32)) dX9_between_79 (by decide +kernel) ?_
    exact V_sub [] rfl (ok_X9_between_b80  (0 : Int32) s0 M z  hf)
  · refine V_iconst (Y := m_X9_between) (pc := 75) (x := (1 : Int32)) dX9_between_75 (by decide +kernel) ?_
    refine V_goto (Y := m_X9_between) (pc := 76) (tgt := 80) dX9_between_76 (by decide +kernel) ?_
    exact V_sub [] rfl (ok_X9_between_b80  (1 : Int32) s0 M z  hf)
def f_X9_between_b61  (x3 : Int32) (x4 : Int32) (M : Mem) : Option (Int32 × Mem) :=
  if x3 = 0 then
    f_X9_between_b70  x4 (0 : Int32) M
  else
    f_X9_between_b70  x4 (2 : Int32) M
set_option maxRecDepth 20000 in
set_option maxHeartbeats 4000000 in
theorem ok_X9_between_b61 {l : Launch} {g : Gam} {b : Nat}   (x3 : Int32) (x4 : Int32) (M : Mem) (z : Int32 × Mem)  (hf : f_X9_between_b61 x3 x4 M = some z) : V l g (wC b) m_X9_between 61 [(3, .int x3), (4, .int x4)] [] M (some (.int z.1)) z.2 := by
  unfold f_X9_between_b61 at hf
  refine V_iload_n (Y := m_X9_between) (pc := 61) 0 dX9_between_61 rfl ?_
  refine V_if_eq (Y := m_X9_between) (pc := 62) (tgt := 69) dX9_between_62 (by decide +kernel) hf (fun hf => ?_) (fun hf => ?_)
  · refine V_iconst (Y := m_X9_between) (pc := 69) (x := (0 : Int32)) dX9_between_69 (by decide +kernel) ?_
    exact V_sub [1] rfl (ok_X9_between_b70  x4 (0 : Int32) M z  hf)
  · refine V_iconst (Y := m_X9_between) (pc := 65) (x := (2 : Int32)) dX9_between_65 (by decide +kernel) ?_
    refine V_goto (Y := m_X9_between) (pc := 66) (tgt := 70) dX9_between_66 (by decide +kernel) ?_
    exact V_sub [1] rfl (ok_X9_between_b70  x4 (2 : Int32) M z  hf)
def f_X9_between_b50  (x1 : Int32) (x2 : Int32) (x3 : Int32) (s0 : Int32) (M : Mem) : Option (Int32 × Mem) :=
  if x3 = 0 then
    if s0 = 0 then
      (f_X0_passagesOf 48 x1 x2 (3 : Int32) M).bind fun q1 =>
      (f_X0_passagesOf 48 x1 x2 (2 : Int32) q1.2).bind fun q2 =>
      if q1.1 = q2.1 then
        some ((0 : Int32), q2.2)
      else
        if q1.1 ≤ q2.1 then
          some ((5 : Int32), q2.2)
        else
          some ((4 : Int32), q2.2)
    else
      f_X9_between_b61  x3 s0 M
  else
    f_X9_between_b61  x3 s0 M
set_option maxRecDepth 20000 in
set_option maxHeartbeats 4000000 in
theorem ok_X9_between_b50 {l : Launch} {g : Gam} {b : Nat}   (x1 : Int32) (x2 : Int32) (x3 : Int32) (s0 : Int32) (M : Mem) (z : Int32 × Mem)  (hf : f_X9_between_b50 x1 x2 x3 s0 M = some z) : V l g (wC b) m_X9_between 50 [(0, .ref (b + 0)), (1, .int x1), (2, .int x2), (3, .int x3)] [.int s0] M (some (.int z.1)) z.2 := by
  unfold f_X9_between_b50 at hf
  refine V_istore (Y := m_X9_between) (pc := 50) [(4, .int s0), (0, .ref (b + 0)), (1, .int x1), (2, .int x2), (3, .int x3)] dX9_between_50 (by decide +kernel) rfl ?_
  refine V_iload_n (Y := m_X9_between) (pc := 52) 4 dX9_between_52 rfl ?_
  refine V_if_ne (Y := m_X9_between) (pc := 53) (tgt := 61) dX9_between_53 (by decide +kernel) hf (fun hf => ?_) (fun hf => ?_)
  · exact V_sub [4, 0] rfl (ok_X9_between_b61  x3 s0 M z  hf)
  · refine V_iload (Y := m_X9_between) (pc := 56) 0 dX9_between_56 rfl ?_
    refine V_if_eq (Y := m_X9_between) (pc := 58) (tgt := 82) dX9_between_58 (by decide +kernel) hf (fun hf => ?_) (fun hf => ?_)
    · refine V_aload_n (Y := m_X9_between) (pc := 82) 1 dX9_between_82 rfl ?_
      refine V_grL (Y := m_X9_between) (pc := 83) (x := 48) 1 kX9 sC_0 (by decide +kernel) rfl rfl tw_430 dX9_between_83 ?_
      refine V_iload_n (Y := m_X9_between) (pc := 86) 2 dX9_between_86 rfl ?_
      refine V_iload_n (Y := m_X9_between) (pc := 87) 3 dX9_between_87 rfl ?_
      refine V_iconst (Y := m_X9_between) (pc := 88) (x := (3 : Int32)) dX9_between_88 (by decide +kernel) ?_
      obtain ⟨q1, hq1, hf⟩ := g_bind hf
      refine V_cVi (Y := m_X9_between) (pc := 89) (As := [.int x1, .int x2, .int (3 : Int32)]) yf_X0_passagesOf kX0 sC_48 (by decide +kernel) (ok_X0_passagesOf 48 x1 x2 (3 : Int32) M _ sC_48 hq1) tw_830 tw_831 tw_829 rfl rfl (Nat.le_of_ble_eq_true rfl) dX9_between_89 ?_
      refine V_istore (Y := m_X9_between) (pc := 92) [(5, .int q1.1), (4, .int s0), (0, .ref (b + 0)), (1, .int x1), (2, .int x2), (3, .int x3)] dX9_between_92 (by decide +kernel) rfl ?_
      refine V_aload_n (Y := m_X9_between) (pc := 94) 2 dX9_between_94 rfl ?_
      refine V_grL (Y := m_X9_between) (pc := 95) (x := 48) 1 kX9 sC_0 (by decide +kernel) rfl rfl tw_430 dX9_between_95 ?_
      refine V_iload_n (Y := m_X9_between) (pc := 98) 3 dX9_between_98 rfl ?_
      refine V_iload_n (Y := m_X9_between) (pc := 99) 4 dX9_between_99 rfl ?_
      refine V_iconst (Y := m_X9_between) (pc := 100) (x := (2 : Int32)) dX9_between_100 (by decide +kernel) ?_
      obtain ⟨q2, hq2, hf⟩ := g_bind hf
      refine V_cVi (Y := m_X9_between) (pc := 101) (As := [.int x1, .int x2, .int (2 : Int32)]) yf_X0_passagesOf kX0 sC_48 (by decide +kernel) (ok_X0_passagesOf 48 x1 x2 (2 : Int32) q1.2 _ sC_48 hq2) tw_830 tw_831 tw_829 rfl rfl (Nat.le_of_ble_eq_true rfl) dX9_between_101 ?_
      refine V_istore (Y := m_X9_between) (pc := 104) [(6, .int q2.1), (5, .int q1.1), (4, .int s0), (0, .ref (b + 0)), (1, .int x1), (2, .int x2), (3, .int x3)] dX9_between_104 (by decide +kernel) rfl ?_
      refine V_iload (Y := m_X9_between) (pc := 106) 1 dX9_between_106 rfl ?_
      refine V_iload (Y := m_X9_between) (pc := 108) 0 dX9_between_108 rfl ?_
      refine V_icmp_ne (Y := m_X9_between) (pc := 110) (tgt := 115) dX9_between_110 (by decide +kernel) hf (fun hf => ?_) (fun hf => ?_)
      · refine V_iload (Y := m_X9_between) (pc := 115) 1 dX9_between_115 rfl ?_
        refine V_iload (Y := m_X9_between) (pc := 117) 0 dX9_between_117 rfl ?_
        refine V_icmp_le (Y := m_X9_between) (pc := 119) (tgt := 126) dX9_between_119 (by decide +kernel) hf (fun hf => ?_) (fun hf => ?_)
        · refine V_iconst (Y := m_X9_between) (pc := 126) (x := (5 : Int32)) dX9_between_126 (by decide +kernel) ?_
          obtain rfl := Option.some.inj hf
          exact V_iret (Y := m_X9_between) rfl dX9_between_127
        · refine V_iconst (Y := m_X9_between) (pc := 122) (x := (4 : Int32)) dX9_between_122 (by decide +kernel) ?_
          refine V_goto (Y := m_X9_between) (pc := 123) (tgt := 127) dX9_between_123 (by decide +kernel) ?_
          obtain rfl := Option.some.inj hf
          exact V_iret (Y := m_X9_between) rfl dX9_between_127
      · refine V_iconst (Y := m_X9_between) (pc := 113) (x := (0 : Int32)) dX9_between_113 (by decide +kernel) ?_
        obtain rfl := Option.some.inj hf
        exact V_iret (Y := m_X9_between) rfl dX9_between_114
    · exact V_sub [4, 0] rfl (ok_X9_between_b61  x3 s0 M z  hf)
def f_X9_between_b31  (x1 : Int32) (x2 : Int32) (s0 : Int32) (M : Mem) : Option (Int32 × Mem) :=
  (f_X0_passagesOf 48 x1 x2 (1 : Int32) M).bind fun q1 =>
  if q1.1 ≤ 0 then
    f_X9_between_b50  x1 x2 s0 (0 : Int32) q1.2
  else
    f_X9_between_b50  x1 x2 s0 (1 : Int32) q1.2
set_option maxRecDepth 20000 in
set_option maxHeartbeats 4000000 in
theorem ok_X9_between_b31 {l : Launch} {g : Gam} {b : Nat}   (x1 : Int32) (x2 : Int32) (s0 : Int32) (M : Mem) (z : Int32 × Mem)  (hf : f_X9_between_b31 x1 x2 s0 M = some z) : V l g (wC b) m_X9_between 31 [(0, .ref (b + 0)), (1, .int x1), (2, .int x2)] [.int s0] M (some (.int z.1)) z.2 := by
  unfold f_X9_between_b31 at hf
  refine V_istore_n (Y := m_X9_between) (pc := 31) [(3, .int s0), (0, .ref (b + 0)), (1, .int x1), (2, .int x2)] dX9_between_31 (by decide +kernel) rfl ?_
  refine V_aload_n (Y := m_X9_between) (pc := 32) 1 dX9_between_32 rfl ?_
  refine V_grL (Y := m_X9_between) (pc := 33) (x := 48) 1 kX9 sC_0 (by decide +kernel) rfl rfl tw_430 dX9_between_33 ?_
  refine V_iload_n (Y := m_X9_between) (pc := 36) 2 dX9_between_36 rfl ?_
  refine V_iload_n (Y := m_X9_between) (pc := 37) 3 dX9_between_37 rfl ?_
  refine V_iconst (Y := m_X9_between) (pc := 38) (x := (1 : Int32)) dX9_between_38 (by decide +kernel) ?_
  obtain ⟨q1, hq1, hf⟩ := g_bind hf
  refine V_cVi (Y := m_X9_between) (pc := 39) (As := [.int x1, .int x2, .int (1 : Int32)]) yf_X0_passagesOf kX0 sC_48 (by decide +kernel) (ok_X0_passagesOf 48 x1 x2 (1 : Int32) M _ sC_48 hq1) tw_830 tw_831 tw_829 rfl rfl (Nat.le_of_ble_eq_true rfl) dX9_between_39 ?_
  refine V_if_le (Y := m_X9_between) (pc := 42) (tgt := 49) dX9_between_42 (by decide +kernel) hf (fun hf => ?_) (fun hf => ?_)
  · refine V_iconst (Y := m_X9_between) (pc := 49) (x := (0 : Int32)) dX9_between_49 (by decide +kernel) ?_
    exact V_sub [1, 2, 3, 0] rfl (ok_X9_between_b50  x1 x2 s0 (0 : Int32) q1.2 z  hf)
  · refine V_iconst (Y := m_X9_between) (pc := 45) (x := (1 : Int32)) dX9_between_45 (by decide +kernel) ?_
    refine V_goto (Y := m_X9_between) (pc := 46) (tgt := 50) dX9_between_46 (by decide +kernel) ?_
    exact V_sub [1, 2, 3, 0] rfl (ok_X9_between_b50  x1 x2 s0 (1 : Int32) q1.2 z  hf)
def f_X9_between_b0  (x1 : Int32) (x2 : Int32) (M : Mem) : Option (Int32 × Mem) :=
  (f_X9_areTwo x1 x2 (9 : Int32) M).bind fun q1 =>
  if q1.1 = 0 then
    some ((-1000000001 : Int32), q1.2)
  else
    (f_X0_passagesOf 48 x1 x2 (0 : Int32) q1.2).bind fun q2 =>
    if q2.1 ≤ 0 then
      f_X9_between_b31  x1 x2 (0 : Int32) q2.2
    else
      f_X9_between_b31  x1 x2 (1 : Int32) q2.2
set_option maxRecDepth 20000 in
set_option maxHeartbeats 4000000 in
theorem ok_X9_between_b0 {l : Launch} {g : Gam} {b : Nat}   (x1 : Int32) (x2 : Int32) (M : Mem) (z : Int32 × Mem)  (hf : f_X9_between_b0 x1 x2 M = some z) : V l g (wC b) m_X9_between 0 [(0, .ref (b + 0)), (1, .int x1), (2, .int x2)] [] M (some (.int z.1)) z.2 := by
  unfold f_X9_between_b0 at hf
  refine V_iload_n (Y := m_X9_between) (pc := 0) 1 dX9_between_0 rfl ?_
  refine V_iload_n (Y := m_X9_between) (pc := 1) 2 dX9_between_1 rfl ?_
  refine V_bipush (Y := m_X9_between) (pc := 2) (x := (9 : Int32)) dX9_between_2 (by decide +kernel) ?_
  obtain ⟨q1, hq1, hf⟩ := g_bind hf
  refine V_cSi (Y := m_X9_between) (pc := 4) (As := [.int x1, .int x2, .int (9 : Int32)]) yf_X9_areTwo (by decide +kernel) (ok_X9_areTwo x1 x2 (9 : Int32) M _  hq1) tw_786 tw_785 rfl rfl (Nat.le_of_ble_eq_true rfl) dX9_between_4 ?_
  refine V_if_ne (Y := m_X9_between) (pc := 7) (tgt := 13) dX9_between_7 (by decide +kernel) hf (fun hf => ?_) (fun hf => ?_)
  · refine V_aload_n (Y := m_X9_between) (pc := 13) 0 dX9_between_13 rfl ?_
    refine V_grL (Y := m_X9_between) (pc := 14) (x := 48) 1 kX9 sC_0 (by decide +kernel) rfl rfl tw_430 dX9_between_14 ?_
    refine V_iload_n (Y := m_X9_between) (pc := 17) 1 dX9_between_17 rfl ?_
    refine V_iload_n (Y := m_X9_between) (pc := 18) 2 dX9_between_18 rfl ?_
    refine V_iconst (Y := m_X9_between) (pc := 19) (x := (0 : Int32)) dX9_between_19 (by decide +kernel) ?_
    obtain ⟨q2, hq2, hf⟩ := g_bind hf
    refine V_cVi (Y := m_X9_between) (pc := 20) (As := [.int x1, .int x2, .int (0 : Int32)]) yf_X0_passagesOf kX0 sC_48 (by decide +kernel) (ok_X0_passagesOf 48 x1 x2 (0 : Int32) q1.2 _ sC_48 hq2) tw_830 tw_831 tw_829 rfl rfl (Nat.le_of_ble_eq_true rfl) dX9_between_20 ?_
    refine V_if_le (Y := m_X9_between) (pc := 23) (tgt := 30) dX9_between_23 (by decide +kernel) hf (fun hf => ?_) (fun hf => ?_)
    · refine V_iconst (Y := m_X9_between) (pc := 30) (x := (0 : Int32)) dX9_between_30 (by decide +kernel) ?_
      exact V_sub [0, 1, 2] rfl (ok_X9_between_b31  x1 x2 (0 : Int32) q2.2 z  hf)
    · refine V_iconst (Y := m_X9_between) (pc := 26) (x := (1 : Int32)) dX9_between_26 (by decide +kernel) ?_
      refine V_goto (Y := m_X9_between) (pc := 27) (tgt := 31) dX9_between_27 (by decide +kernel) ?_
      exact V_sub [0, 1, 2] rfl (ok_X9_between_b31  x1 x2 (1 : Int32) q2.2 z  hf)
  · refine V_ldc (Y := m_X9_between) (pc := 10) (x := (-1000000001 : Int32)) dX9_between_10 tw_481 ?_
    obtain rfl := Option.some.inj hf
    exact V_iret (Y := m_X9_between) rfl dX9_between_12
def f_X9_between (x1 : Int32) (x2 : Int32) (M : Mem) : Option (Int32 × Mem) := f_X9_between_b0 x1 x2 M
set_option maxRecDepth 20000 in
set_option maxHeartbeats 4000000 in
theorem ok_X9_between {l : Launch} {g : Gam} {b : Nat} : ∀ (x1 : Int32) (x2 : Int32) (M : Mem) (z : Int32 × Mem), f_X9_between x1 x2 M = some z → Cn l g (wC b) m_X9_between [.ref (b + 0), .int x1, .int x2] M (some (.int z.1)) z.2 := fun x1 x2 M z  hf => Cn_of (by decide +kernel) (Nat.le_of_ble_eq_true rfl) (V_sub [0, 1, 2] rfl (ok_X9_between_b0 x1 x2 M z  hf))

abbrev m_X9_same : Mth := (yX9_same, cX9_same, 3, some .int, 3)
theorem yf_X9_same : YF m_X9_same 2 := ⟨tw_837, tw_65, by decide +kernel, by decide +kernel⟩
def f_X9_same_b0  (x1 : Int32) (x2 : Int32) (M : Mem) : Option (Int32 × Mem) :=
  (f_X9_areTwo x1 x2 (10 : Int32) M).bind fun q1 =>
  if q1.1 = 0 then
    some ((-1000000001 : Int32), q1.2)
  else
    (f_X0_capesNamed 48 x1 q1.2).bind fun q2 =>
    (f_X0_capesNamed 48 x2 q2.2).bind fun q3 =>
    if (q2.1 &&& q3.1) = 0 then
      some ((0 : Int32), q3.2)
    else
      some ((1 : Int32), q3.2)
set_option maxRecDepth 20000 in
set_option maxHeartbeats 4000000 in
theorem ok_X9_same_b0 {l : Launch} {g : Gam} {b : Nat}   (x1 : Int32) (x2 : Int32) (M : Mem) (z : Int32 × Mem)  (hf : f_X9_same_b0 x1 x2 M = some z) : V l g (wC b) m_X9_same 0 [(0, .ref (b + 0)), (1, .int x1), (2, .int x2)] [] M (some (.int z.1)) z.2 := by
  unfold f_X9_same_b0 at hf
  refine V_iload_n (Y := m_X9_same) (pc := 0) 1 dX9_same_0 rfl ?_
  refine V_iload_n (Y := m_X9_same) (pc := 1) 2 dX9_same_1 rfl ?_
  refine V_bipush (Y := m_X9_same) (pc := 2) (x := (10 : Int32)) dX9_same_2 (by decide +kernel) ?_
  obtain ⟨q1, hq1, hf⟩ := g_bind hf
  refine V_cSi (Y := m_X9_same) (pc := 4) (As := [.int x1, .int x2, .int (10 : Int32)]) yf_X9_areTwo (by decide +kernel) (ok_X9_areTwo x1 x2 (10 : Int32) M _  hq1) tw_786 tw_785 rfl rfl (Nat.le_of_ble_eq_true rfl) dX9_same_4 ?_
  refine V_if_ne (Y := m_X9_same) (pc := 7) (tgt := 13) dX9_same_7 (by decide +kernel) hf (fun hf => ?_) (fun hf => ?_)
  · refine V_aload_n (Y := m_X9_same) (pc := 13) 0 dX9_same_13 rfl ?_
    refine V_grL (Y := m_X9_same) (pc := 14) (x := 48) 1 kX9 sC_0 (by decide +kernel) rfl rfl tw_430 dX9_same_14 ?_
    refine V_iload_n (Y := m_X9_same) (pc := 17) 1 dX9_same_17 rfl ?_
    obtain ⟨q2, hq2, hf⟩ := g_bind hf
    refine V_cVi (Y := m_X9_same) (pc := 18) (As := [.int x1]) yf_X0_capesNamed kX0 sC_48 (by decide +kernel) (ok_X0_capesNamed 48 x1 q1.2 _ sC_48 hq2) tw_839 tw_840 tw_838 rfl rfl (Nat.le_of_ble_eq_true rfl) dX9_same_18 ?_
    refine V_aload_n (Y := m_X9_same) (pc := 21) 0 dX9_same_21 rfl ?_
    refine V_grL (Y := m_X9_same) (pc := 22) (x := 48) 1 kX9 sC_0 (by decide +kernel) rfl rfl tw_430 dX9_same_22 ?_
    refine V_iload_n (Y := m_X9_same) (pc := 25) 2 dX9_same_25 rfl ?_
    obtain ⟨q3, hq3, hf⟩ := g_bind hf
    refine V_cVi (Y := m_X9_same) (pc := 26) (As := [.int x2]) yf_X0_capesNamed kX0 sC_48 (by decide +kernel) (ok_X0_capesNamed 48 x2 q2.2 _ sC_48 hq3) tw_839 tw_840 tw_838 rfl rfl (Nat.le_of_ble_eq_true rfl) dX9_same_26 ?_
    refine V_iand (Y := m_X9_same) (pc := 29) dX9_same_29 ?_
    refine V_if_eq (Y := m_X9_same) (pc := 30) (tgt := 37) dX9_same_30 (by decide +kernel) hf (fun hf => ?_) (fun hf => ?_)
    · refine V_iconst (Y := m_X9_same) (pc := 37) (x := (0 : Int32)) dX9_same_37 (by decide +kernel) ?_
      obtain rfl := Option.some.inj hf
      exact V_iret (Y := m_X9_same) rfl dX9_same_38
    · refine V_iconst (Y := m_X9_same) (pc := 33) (x := (1 : Int32)) dX9_same_33 (by decide +kernel) ?_
      refine V_goto (Y := m_X9_same) (pc := 34) (tgt := 38) dX9_same_34 (by decide +kernel) ?_
      obtain rfl := Option.some.inj hf
      exact V_iret (Y := m_X9_same) rfl dX9_same_38
  · refine V_ldc (Y := m_X9_same) (pc := 10) (x := (-1000000001 : Int32)) dX9_same_10 tw_481 ?_
    obtain rfl := Option.some.inj hf
    exact V_iret (Y := m_X9_same) rfl dX9_same_12
def f_X9_same (x1 : Int32) (x2 : Int32) (M : Mem) : Option (Int32 × Mem) := f_X9_same_b0 x1 x2 M
set_option maxRecDepth 20000 in
set_option maxHeartbeats 4000000 in
theorem ok_X9_same {l : Launch} {g : Gam} {b : Nat} : ∀ (x1 : Int32) (x2 : Int32) (M : Mem) (z : Int32 × Mem), f_X9_same x1 x2 M = some z → Cn l g (wC b) m_X9_same [.ref (b + 0), .int x1, .int x2] M (some (.int z.1)) z.2 := fun x1 x2 M z  hf => Cn_of (by decide +kernel) (Nat.le_of_ble_eq_true rfl) (V_sub [0, 1, 2] rfl (ok_X9_same_b0 x1 x2 M z  hf))

abbrev m_X9_kept : Mth := (yX9_kept, cX9_kept, 6, some .int, 2)
theorem yf_X9_kept : YF m_X9_kept 1 := ⟨tw_845, tw_65, by decide +kernel, by decide +kernel⟩
def f_X9_kept_b85 (k21 : Int32 → Int32 → Int32 → Int32 → Mem → Option (Int32 × Mem)) (x1 : Int32) (x2 : Int32) (x3 : Int32) (x4 : Int32) (M : Mem) : Option (Int32 × Mem) :=
  k21 x1 x2 x3 (x4 + (1 : Int32)) M
set_option maxRecDepth 20000 in
set_option maxHeartbeats 4000000 in
theorem ok_X9_kept_b85 {l : Launch} {g : Gam} {b : Nat} (k21 : Int32 → Int32 → Int32 → Int32 → Mem → Option (Int32 × Mem)) (hk21 : ∀ (x1 : Int32) (x2 : Int32) (x3 : Int32) (x4 : Int32) (M : Mem) (z : Int32 × Mem), k21 x1 x2 x3 x4 M = some z → V l g (wC b) m_X9_kept 21 [(0, .ref (b + 0)), (1, .int x1), (2, .int x2), (3, .int x3), (4, .int x4)] [] M (some (.int z.1)) z.2) (x1 : Int32) (x2 : Int32) (x3 : Int32) (x4 : Int32) (M : Mem) (z : Int32 × Mem)  (hf : f_X9_kept_b85 k21 x1 x2 x3 x4 M = some z) : V l g (wC b) m_X9_kept 85 [(0, .ref (b + 0)), (1, .int x1), (2, .int x2), (3, .int x3), (4, .int x4)] [] M (some (.int z.1)) z.2 := by
  unfold f_X9_kept_b85 at hf
  refine V_iinc (Y := m_X9_kept) (pc := 85) (y := (x4 + (1 : Int32))) 4 [(4, .int (x4 + (1 : Int32))), (0, .ref (b + 0)), (1, .int x1), (2, .int x2), (3, .int x3)] dX9_kept_85 rfl rfl (by decide +kernel) rfl ?_
  refine V_goto (Y := m_X9_kept) (pc := 88) (tgt := 21) dX9_kept_88 (by decide +kernel) ?_
  exact V_sub [1, 2, 3, 4, 0] rfl (hk21 x1 x2 x3 (x4 + (1 : Int32)) M z  hf)
def f_X9_kept_b21  : Nat → Int32 → Int32 → Int32 → Int32 → Mem → Option (Int32 × Mem)
  | 0, _, _, _, _, _ => none
  | n + 1, x1, x2, x3, x4, M =>
    if (M 48 9) ≤ x4 then
      some (x2, M)
    else
      if ixb x4 24 = true then
      if (M (rfC 49 (ix x4)) 5) = x1 then
        if (M (rfC 49 (ix x4)) 6) = (-1000000005 : Int32) then
          f_X9_kept_b85 (f_X9_kept_b21  n) x1 x2 x3 x4 M
        else
          if x3 ≤ (M (rfC 49 (ix x4)) 2) then
            f_X9_kept_b85 (f_X9_kept_b21  n) x1 x2 x3 x4 M
          else
            f_X9_kept_b85 (f_X9_kept_b21  n) x1 (M (rfC 49 (ix x4)) 6) (M (rfC 49 (ix x4)) 2) x4 M
      else
        f_X9_kept_b85 (f_X9_kept_b21  n) x1 x2 x3 x4 M
      else none
set_option maxRecDepth 20000 in
set_option maxHeartbeats 4000000 in
theorem ok_X9_kept_b21 {l : Launch} {g : Gam} {b : Nat}   : ∀ (n : Nat) (x1 : Int32) (x2 : Int32) (x3 : Int32) (x4 : Int32) (M : Mem) (z : Int32 × Mem), f_X9_kept_b21  n x1 x2 x3 x4 M = some z → V l g (wC b) m_X9_kept 21 [(0, .ref (b + 0)), (1, .int x1), (2, .int x2), (3, .int x3), (4, .int x4)] [] M (some (.int z.1)) z.2 := by
  intro n
  induction n with
  | zero =>
    intro x1 x2 x3 x4 M z  hf
    cases hf
  | succ n ih =>
    intro x1 x2 x3 x4 M z  hf
    rw [f_X9_kept_b21] at hf
    refine V_iload (Y := m_X9_kept) (pc := 21) 4 dX9_kept_21 rfl ?_
    refine V_aload_n (Y := m_X9_kept) (pc := 23) 0 dX9_kept_23 rfl ?_
    refine V_grL (Y := m_X9_kept) (pc := 24) (x := 48) 1 kX9 sC_0 (by decide +kernel) rfl rfl tw_430 dX9_kept_24 ?_
    refine V_gi (Y := m_X9_kept) (pc := 27) 9 kX0 sC_48 (by decide +kernel) rfl tw_352 dX9_kept_27 ?_
    refine V_icmp_ge (Y := m_X9_kept) (pc := 30) (tgt := 91) dX9_kept_30 (by decide +kernel) hf (fun hf => ?_) (fun hf => ?_)
    · refine V_iload_n (Y := m_X9_kept) (pc := 91) 2 dX9_kept_91 rfl ?_
      obtain rfl := Option.some.inj hf
      exact V_iret (Y := m_X9_kept) rfl dX9_kept_92
    · refine V_aload_n (Y := m_X9_kept) (pc := 33) 0 dX9_kept_33 rfl ?_
      refine V_grL (Y := m_X9_kept) (pc := 34) (x := 48) 1 kX9 sC_0 (by decide +kernel) rfl rfl tw_430 dX9_kept_34 ?_
      refine V_grL (Y := m_X9_kept) (pc := 37) (x := 49) 0 kX0 sC_48 (by decide +kernel) rfl rfl tw_332 dX9_kept_37 ?_
      refine V_iload (Y := m_X9_kept) (pc := 40) 4 dX9_kept_40 rfl ?_
      obtain ⟨hi1, hf⟩ := g_if hf
      refine V_aald (Y := m_X9_kept) (pc := 42) 1 rfl sC_49 hi1 dX9_kept_42 ?_
      refine V_astore (Y := m_X9_kept) (pc := 43) [(5, .ref (b + (rfC 49 (ix x4)))), (0, .ref (b + 0)), (1, .int x1), (2, .int x2), (3, .int x3), (4, .int x4)] dX9_kept_43 (by decide +kernel) rfl ?_
      refine V_aload (Y := m_X9_kept) (pc := 45) 0 dX9_kept_45 rfl ?_
      refine V_gi (Y := m_X9_kept) (pc := 47) 5 kX2 (wtC.2 _ _ _ sC_49 _ (ixb_lt hi1)) (by decide +kernel) rfl tw_308 dX9_kept_47 ?_
      refine V_iload_n (Y := m_X9_kept) (pc := 50) 2 dX9_kept_50 rfl ?_
      refine V_icmp_ne (Y := m_X9_kept) (pc := 51) (tgt := 85) dX9_kept_51 (by decide +kernel) hf (fun hf => ?_) (fun hf => ?_)
      · exact V_sub [1, 2, 3, 4, 5] rfl (ok_X9_kept_b85 (f_X9_kept_b21  n) ih x1 x2 x3 x4 M z  hf)
      · refine V_aload (Y := m_X9_kept) (pc := 54) 0 dX9_kept_54 rfl ?_
        refine V_gi (Y := m_X9_kept) (pc := 56) 6 kX2 (wtC.2 _ _ _ sC_49 _ (ixb_lt hi1)) (by decide +kernel) rfl tw_311 dX9_kept_56 ?_
        refine V_ldc (Y := m_X9_kept) (pc := 59) (x := (-1000000005 : Int32)) dX9_kept_59 tw_562 ?_
        refine V_icmp_eq (Y := m_X9_kept) (pc := 61) (tgt := 85) dX9_kept_61 (by decide +kernel) hf (fun hf => ?_) (fun hf => ?_)
        · exact V_sub [1, 2, 3, 4, 5] rfl (ok_X9_kept_b85 (f_X9_kept_b21  n) ih x1 x2 x3 x4 M z  hf)
        · refine V_aload (Y := m_X9_kept) (pc := 64) 0 dX9_kept_64 rfl ?_
          refine V_gi (Y := m_X9_kept) (pc := 66) 2 kX2 (wtC.2 _ _ _ sC_49 _ (ixb_lt hi1)) (by decide +kernel) rfl tw_293 dX9_kept_66 ?_
          refine V_iload_n (Y := m_X9_kept) (pc := 69) 4 dX9_kept_69 rfl ?_
          refine V_icmp_ge (Y := m_X9_kept) (pc := 70) (tgt := 85) dX9_kept_70 (by decide +kernel) hf (fun hf => ?_) (fun hf => ?_)
          · exact V_sub [1, 2, 3, 4, 5] rfl (ok_X9_kept_b85 (f_X9_kept_b21  n) ih x1 x2 x3 x4 M z  hf)
          · refine V_aload (Y := m_X9_kept) (pc := 73) 0 dX9_kept_73 rfl ?_
            refine V_gi (Y := m_X9_kept) (pc := 75) 6 kX2 (wtC.2 _ _ _ sC_49 _ (ixb_lt hi1)) (by decide +kernel) rfl tw_311 dX9_kept_75 ?_
            refine V_istore_n (Y := m_X9_kept) (pc := 78) [(2, .int (M (rfC 49 (ix x4)) 6)), (5, .ref (b + (rfC 49 (ix x4)))), (0, .ref (b + 0)), (1, .int x1), (3, .int x3), (4, .int x4)] dX9_kept_78 (by decide +kernel) rfl ?_
            refine V_aload (Y := m_X9_kept) (pc := 79) 1 dX9_kept_79 rfl ?_
            refine V_gi (Y := m_X9_kept) (pc := 81) 2 kX2 (wtC.2 _ _ _ sC_49 _ (ixb_lt hi1)) (by decide +kernel) rfl tw_293 dX9_kept_81 ?_
            refine V_istore_n (Y := m_X9_kept) (pc := 84) [(3, .int (M (rfC 49 (ix x4)) 2)), (2, .int (M (rfC 49 (ix x4)) 6)), (5, .ref (b + (rfC 49 (ix x4)))), (0, .ref (b + 0)), (1, .int x1), (4, .int x4)] dX9_kept_84 (by decide +kernel) rfl ?_
            exact V_sub [3, 4, 1, 0, 5] rfl (ok_X9_kept_b85 (f_X9_kept_b21  n) ih x1 (M (rfC 49 (ix x4)) 6) (M (rfC 49 (ix x4)) 2) x4 M z  hf)
def f_X9_kept_b0  (x1 : Int32) (M : Mem) : Option (Int32 × Mem) :=
  (f_X9_isBelow x1 (9 : Int32) M).bind fun q1 =>
  if q1.1 = 0 then
    some ((-1000000001 : Int32), q1.2)
  else
    f_X9_kept_b21  FU x1 (-1000000005 : Int32) (100 : Int32) (0 : Int32) q1.2
set_option maxRecDepth 20000 in
set_option maxHeartbeats 4000000 in
theorem ok_X9_kept_b0 {l : Launch} {g : Gam} {b : Nat}   (x1 : Int32) (M : Mem) (z : Int32 × Mem)  (hf : f_X9_kept_b0 x1 M = some z) : V l g (wC b) m_X9_kept 0 [(0, .ref (b + 0)), (1, .int x1)] [] M (some (.int z.1)) z.2 := by
  unfold f_X9_kept_b0 at hf
  refine V_iload_n (Y := m_X9_kept) (pc := 0) 1 dX9_kept_0 rfl ?_
  refine V_bipush (Y := m_X9_kept) (pc := 1) (x := (9 : Int32)) dX9_kept_1 (by decide +kernel) ?_
  obtain ⟨q1, hq1, hf⟩ := g_bind hf
  refine V_cSi (Y := m_X9_kept) (pc := 3) (As := [.int x1, .int (9 : Int32)]) yf_X9_isBelow (by decide +kernel) (ok_X9_isBelow x1 (9 : Int32) M _  hq1) tw_473 tw_472 rfl rfl (Nat.le_of_ble_eq_true rfl) dX9_kept_3 ?_
  refine V_if_ne (Y := m_X9_kept) (pc := 6) (tgt := 12) dX9_kept_6 (by decide +kernel) hf (fun hf => ?_) (fun hf => ?_)
  · refine V_ldc (Y := m_X9_kept) (pc := 12) (x := (-1000000005 : Int32)) dX9_kept_12 tw_562 ?_
    refine V_istore_n (Y := m_X9_kept) (pc := 14) [(2, .int (-1000000005 : Int32)), (0, .ref (b + 0)), (1, .int x1)] dX9_kept_14 (by decide +kernel) rfl ?_
    refine V_bipush (Y := m_X9_kept) (pc := 15) (x := (100 : Int32)) dX9_kept_15 (by decide +kernel) ?_
    refine V_istore_n (Y := m_X9_kept) (pc := 17) [(3, .int (100 : Int32)), (2, .int (-1000000005 : Int32)), (0, .ref (b + 0)), (1, .int x1)] dX9_kept_17 (by decide +kernel) rfl ?_
    refine V_iconst (Y := m_X9_kept) (pc := 18) (x := (0 : Int32)) dX9_kept_18 (by decide +kernel) ?_
    refine V_istore (Y := m_X9_kept) (pc := 19) [(4, .int (0 : Int32)), (3, .int (100 : Int32)), (2, .int (-1000000005 : Int32)), (0, .ref (b + 0)), (1, .int x1)] dX9_kept_19 (by decide +kernel) rfl ?_
    exact V_sub [3, 4, 2, 1, 0] rfl (ok_X9_kept_b21  FU x1 (-1000000005 : Int32) (100 : Int32) (0 : Int32) q1.2 z  hf)
  · refine V_ldc (Y := m_X9_kept) (pc := 9) (x := (-1000000001 : Int32)) dX9_kept_9 tw_481 ?_
    obtain rfl := Option.some.inj hf
    exact V_iret (Y := m_X9_kept) rfl dX9_kept_11
def f_X9_kept (x1 : Int32) (M : Mem) : Option (Int32 × Mem) := f_X9_kept_b0 x1 M
set_option maxRecDepth 20000 in
set_option maxHeartbeats 4000000 in
theorem ok_X9_kept {l : Launch} {g : Gam} {b : Nat} : ∀ (x1 : Int32) (M : Mem) (z : Int32 × Mem), f_X9_kept x1 M = some z → Cn l g (wC b) m_X9_kept [.ref (b + 0), .int x1] M (some (.int z.1)) z.2 := fun x1 M z  hf => Cn_of (by decide +kernel) (Nat.le_of_ble_eq_true rfl) (V_sub [0, 1] rfl (ok_X9_kept_b0 x1 M z  hf))

abbrev m_X9_set : Mth := (yX9_set, cX9_set, 4, some .int, 2)
theorem yf_X9_set : YF m_X9_set 3 := ⟨tw_849, tw_65, by decide +kernel, by decide +kernel⟩
def f_X9_set_b0  (x1 : Int32) (x2 : Int32) (x3 : Int32) (M : Mem) : Option (Int32 × Mem) :=
  (f_X9_isBelow x1 (3 : Int32) M).bind fun q1 =>
  if q1.1 = 0 then
    some ((-1000000001 : Int32), q1.2)
  else
    (f_X9_isBelow x2 (100 : Int32) q1.2).bind fun q2 =>
    if q2.1 = 0 then
      some ((-1000000001 : Int32), q2.2)
    else
      (f_X9_isWithin x3 (-200 : Int32) (200 : Int32) q2.2).bind fun q3 =>
      if q3.1 = 0 then
        some ((-1000000001 : Int32), q3.2)
      else
        if ixb x1 3 = true then
        if ixb x1 3 = true then
        some ((1 : Int32), (mset (mset q3.2 53 (ix x1) x2) 54 (ix x1) x3))
        else none
        else none
set_option maxRecDepth 20000 in
set_option maxHeartbeats 4000000 in
theorem ok_X9_set_b0 {l : Launch} {g : Gam} {b : Nat}   (x1 : Int32) (x2 : Int32) (x3 : Int32) (M : Mem) (z : Int32 × Mem)  (hf : f_X9_set_b0 x1 x2 x3 M = some z) : V l g (wC b) m_X9_set 0 [(0, .ref (b + 0)), (1, .int x1), (2, .int x2), (3, .int x3)] [] M (some (.int z.1)) z.2 := by
  unfold f_X9_set_b0 at hf
  refine V_iload_n (Y := m_X9_set) (pc := 0) 1 dX9_set_0 rfl ?_
  refine V_iconst (Y := m_X9_set) (pc := 1) (x := (3 : Int32)) dX9_set_1 (by decide +kernel) ?_
  obtain ⟨q1, hq1, hf⟩ := g_bind hf
  refine V_cSi (Y := m_X9_set) (pc := 2) (As := [.int x1, .int (3 : Int32)]) yf_X9_isBelow (by decide +kernel) (ok_X9_isBelow x1 (3 : Int32) M _  hq1) tw_473 tw_472 rfl rfl (Nat.le_of_ble_eq_true rfl) dX9_set_2 ?_
  refine V_if_eq (Y := m_X9_set) (pc := 5) (tgt := 30) dX9_set_5 (by decide +kernel) hf (fun hf => ?_) (fun hf => ?_)
  · refine V_ldc (Y := m_X9_set) (pc := 30) (x := (-1000000001 : Int32)) dX9_set_30 tw_481 ?_
    obtain rfl := Option.some.inj hf
    exact V_iret (Y := m_X9_set) rfl dX9_set_32
  · refine V_iload_n (Y := m_X9_set) (pc := 8) 2 dX9_set_8 rfl ?_
    refine V_bipush (Y := m_X9_set) (pc := 9) (x := (100 : Int32)) dX9_set_9 (by decide +kernel) ?_
    obtain ⟨q2, hq2, hf⟩ := g_bind hf
    refine V_cSi (Y := m_X9_set) (pc := 11) (As := [.int x2, .int (100 : Int32)]) yf_X9_isBelow (by decide +kernel) (ok_X9_isBelow x2 (100 : Int32) q1.2 _  hq2) tw_473 tw_472 rfl rfl (Nat.le_of_ble_eq_true rfl) dX9_set_11 ?_
    refine V_if_eq (Y := m_X9_set) (pc := 14) (tgt := 30) dX9_set_14 (by decide +kernel) hf (fun hf => ?_) (fun hf => ?_)
    · refine V_ldc (Y := m_X9_set) (pc := 30) (x := (-1000000001 : Int32)) dX9_set_30 tw_481 ?_
      obtain rfl := Option.some.inj hf
      exact V_iret (Y := m_X9_set) rfl dX9_set_32
    · refine V_iload_n (Y := m_X9_set) (pc := 17) 3 dX9_set_17 rfl ?_
      refine V_sipush (Y := m_X9_set) (pc := 18) (x := (-200 : Int32)) dX9_set_18 (by decide +kernel) ?_
      refine V_sipush (Y := m_X9_set) (pc := 21) (x := (200 : Int32)) dX9_set_21 (by decide +kernel) ?_
      obtain ⟨q3, hq3, hf⟩ := g_bind hf
      refine V_cSi (Y := m_X9_set) (pc := 24) (As := [.int x3, .int (-200 : Int32), .int (200 : Int32)]) yf_X9_isWithin (by decide +kernel) (ok_X9_isWithin x3 (-200 : Int32) (200 : Int32) q2.2 _  hq3) tw_479 tw_478 rfl rfl (Nat.le_of_ble_eq_true rfl) dX9_set_24 ?_
      refine V_if_ne (Y := m_X9_set) (pc := 27) (tgt := 33) dX9_set_27 (by decide +kernel) hf (fun hf => ?_) (fun hf => ?_)
      · refine V_aload_n (Y := m_X9_set) (pc := 33) 0 dX9_set_33 rfl ?_
        refine V_grL (Y := m_X9_set) (pc := 34) (x := 48) 1 kX9 sC_0 (by decide +kernel) rfl rfl tw_430 dX9_set_34 ?_
        refine V_grL (Y := m_X9_set) (pc := 37) (x := 53) 6 kX0 sC_48 (by decide +kernel) rfl rfl tw_345 dX9_set_37 ?_
        refine V_iload_n (Y := m_X9_set) (pc := 40) 1 dX9_set_40 rfl ?_
        refine V_iload_n (Y := m_X9_set) (pc := 41) 2 dX9_set_41 rfl ?_
        obtain ⟨hi4, hf⟩ := g_if hf
        refine V_iast (Y := m_X9_set) (pc := 42) sC_53 hi4 dX9_set_42 ?_
        refine V_aload_n (Y := m_X9_set) (pc := 43) 0 dX9_set_43 rfl ?_
        refine V_grL (Y := m_X9_set) (pc := 44) (x := 48) 1 kX9 sC_0 (by decide +kernel) rfl rfl tw_430 dX9_set_44 ?_
        refine V_grL (Y := m_X9_set) (pc := 47) (x := 54) 7 kX0 sC_48 (by decide +kernel) rfl rfl tw_347 dX9_set_47 ?_
        refine V_iload_n (Y := m_X9_set) (pc := 50) 1 dX9_set_50 rfl ?_
        refine V_iload_n (Y := m_X9_set) (pc := 51) 3 dX9_set_51 rfl ?_
        obtain ⟨hi5, hf⟩ := g_if hf
        refine V_iast (Y := m_X9_set) (pc := 52) sC_54 hi5 dX9_set_52 ?_
        refine V_iconst (Y := m_X9_set) (pc := 53) (x := (1 : Int32)) dX9_set_53 (by decide +kernel) ?_
        obtain rfl := Option.some.inj hf
        exact V_iret (Y := m_X9_set) rfl dX9_set_54
      · refine V_ldc (Y := m_X9_set) (pc := 30) (x := (-1000000001 : Int32)) dX9_set_30 tw_481 ?_
        obtain rfl := Option.some.inj hf
        exact V_iret (Y := m_X9_set) rfl dX9_set_32
def f_X9_set (x1 : Int32) (x2 : Int32) (x3 : Int32) (M : Mem) : Option (Int32 × Mem) := f_X9_set_b0 x1 x2 x3 M
set_option maxRecDepth 20000 in
set_option maxHeartbeats 4000000 in
theorem ok_X9_set {l : Launch} {g : Gam} {b : Nat} : ∀ (x1 : Int32) (x2 : Int32) (x3 : Int32) (M : Mem) (z : Int32 × Mem), f_X9_set x1 x2 x3 M = some z → Cn l g (wC b) m_X9_set [.ref (b + 0), .int x1, .int x2, .int x3] M (some (.int z.1)) z.2 := fun x1 x2 x3 M z  hf => Cn_of (by decide +kernel) (Nat.le_of_ble_eq_true rfl) (V_sub [0, 1, 2, 3] rfl (ok_X9_set_b0 x1 x2 x3 M z  hf))

abbrev m_X9_clock : Mth := (yX9_clock, cX9_clock, 4, some .int, 7)
theorem yf_X9_clock : YF m_X9_clock 3 := ⟨tw_853, tw_65, by decide +kernel, by decide +kernel⟩
def f_X9_clock_b0  (x1 : Int32) (x2 : Int32) (x3 : Int32) (M : Mem) : Option (Int32 × Mem) :=
  (f_X9_isBelow x1 (3 : Int32) M).bind fun q1 =>
  if q1.1 = 0 then
    some ((-1000000001 : Int32), q1.2)
  else
    (f_X9_isBelow x2 (100 : Int32) q1.2).bind fun q2 =>
    if q2.1 = 0 then
      some ((-1000000001 : Int32), q2.2)
    else
      (f_X9_isWithin x3 (0 : Int32) (2 : Int32) q2.2).bind fun q3 =>
      if q3.1 = 0 then
        some ((-1000000001 : Int32), q3.2)
      else
        (f_X5_prepare 48 x1 q3.2).bind fun q4 =>
        (f_X5_find 48 x1 x2 q4.2).bind fun q5 =>
        if x3 = 0 then
          some ((q5.2 9 0), q5.2)
        else
          if x3 = (1 : Int32) then
            some ((q5.2 9 1), q5.2)
          else
            some ((q5.2 9 2), q5.2)
set_option maxRecDepth 20000 in
set_option maxHeartbeats 4000000 in
theorem ok_X9_clock_b0 {l : Launch} {g : Gam} {b : Nat}   (x1 : Int32) (x2 : Int32) (x3 : Int32) (M : Mem) (z : Int32 × Mem)  (hf : f_X9_clock_b0 x1 x2 x3 M = some z) : V l g (wC b) m_X9_clock 0 [(0, .ref (b + 0)), (1, .int x1), (2, .int x2), (3, .int x3)] [] M (some (.int z.1)) z.2 := by
  unfold f_X9_clock_b0 at hf
  refine V_iload_n (Y := m_X9_clock) (pc := 0) 1 dX9_clock_0 rfl ?_
  refine V_iconst (Y := m_X9_clock) (pc := 1) (x := (3 : Int32)) dX9_clock_1 (by decide +kernel) ?_
  obtain ⟨q1, hq1, hf⟩ := g_bind hf
  refine V_cSi (Y := m_X9_clock) (pc := 2) (As := [.int x1, .int (3 : Int32)]) yf_X9_isBelow (by decide +kernel) (ok_X9_isBelow x1 (3 : Int32) M _  hq1) tw_473 tw_472 rfl rfl (Nat.le_of_ble_eq_true rfl) dX9_clock_2 ?_
  refine V_if_eq (Y := m_X9_clock) (pc := 5) (tgt := 26) dX9_clock_5 (by decide +kernel) hf (fun hf => ?_) (fun hf => ?_)
  · refine V_ldc (Y := m_X9_clock) (pc := 26) (x := (-1000000001 : Int32)) dX9_clock_26 tw_481 ?_
    obtain rfl := Option.some.inj hf
    exact V_iret (Y := m_X9_clock) rfl dX9_clock_28
  · refine V_iload_n (Y := m_X9_clock) (pc := 8) 2 dX9_clock_8 rfl ?_
    refine V_bipush (Y := m_X9_clock) (pc := 9) (x := (100 : Int32)) dX9_clock_9 (by decide +kernel) ?_
    obtain ⟨q2, hq2, hf⟩ := g_bind hf
    refine V_cSi (Y := m_X9_clock) (pc := 11) (As := [.int x2, .int (100 : Int32)]) yf_X9_isBelow (by decide +kernel) (ok_X9_isBelow x2 (100 : Int32) q1.2 _  hq2) tw_473 tw_472 rfl rfl (Nat.le_of_ble_eq_true rfl) dX9_clock_11 ?_
    refine V_if_eq (Y := m_X9_clock) (pc := 14) (tgt := 26) dX9_clock_14 (by decide +kernel) hf (fun hf => ?_) (fun hf => ?_)
    · refine V_ldc (Y := m_X9_clock) (pc := 26) (x := (-1000000001 : Int32)) dX9_clock_26 tw_481 ?_
      obtain rfl := Option.some.inj hf
      exact V_iret (Y := m_X9_clock) rfl dX9_clock_28
    · refine V_iload_n (Y := m_X9_clock) (pc := 17) 3 dX9_clock_17 rfl ?_
      refine V_iconst (Y := m_X9_clock) (pc := 18) (x := (0 : Int32)) dX9_clock_18 (by decide +kernel) ?_
      refine V_iconst (Y := m_X9_clock) (pc := 19) (x := (2 : Int32)) dX9_clock_19 (by decide +kernel) ?_
      obtain ⟨q3, hq3, hf⟩ := g_bind hf
      refine V_cSi (Y := m_X9_clock) (pc := 20) (As := [.int x3, .int (0 : Int32), .int (2 : Int32)]) yf_X9_isWithin (by decide +kernel) (ok_X9_isWithin x3 (0 : Int32) (2 : Int32) q2.2 _  hq3) tw_479 tw_478 rfl rfl (Nat.le_of_ble_eq_true rfl) dX9_clock_20 ?_
      refine V_if_ne (Y := m_X9_clock) (pc := 23) (tgt := 29) dX9_clock_23 (by decide +kernel) hf (fun hf => ?_) (fun hf => ?_)
      · refine V_aload_n (Y := m_X9_clock) (pc := 29) 0 dX9_clock_29 rfl ?_
        refine V_grL (Y := m_X9_clock) (pc := 30) (x := 9) 5 kX9 sC_0 (by decide +kernel) rfl rfl tw_434 dX9_clock_30 ?_
        refine V_aload_n (Y := m_X9_clock) (pc := 33) 0 dX9_clock_33 rfl ?_
        refine V_grL (Y := m_X9_clock) (pc := 34) (x := 48) 1 kX9 sC_0 (by decide +kernel) rfl rfl tw_430 dX9_clock_34 ?_
        refine V_iload_n (Y := m_X9_clock) (pc := 37) 1 dX9_clock_37 rfl ?_
        obtain ⟨q4, hq4, hf⟩ := g_bind hf
        refine V_cVv (Y := m_X9_clock) (pc := 38) (As := [.ref (b + 48), .int x1]) yf_X5_prepare kX5 sC_9 (by decide +kernel) (ok_X5_prepare 48 x1 q3.2 _ sC_48 hq4) tw_855 tw_856 tw_854 rfl rfl (Nat.le_of_ble_eq_true rfl) dX9_clock_38 ?_
        refine V_aload_n (Y := m_X9_clock) (pc := 41) 0 dX9_clock_41 rfl ?_
        refine V_grL (Y := m_X9_clock) (pc := 42) (x := 9) 5 kX9 sC_0 (by decide +kernel) rfl rfl tw_434 dX9_clock_42 ?_
        refine V_aload_n (Y := m_X9_clock) (pc := 45) 0 dX9_clock_45 rfl ?_
        refine V_grL (Y := m_X9_clock) (pc := 46) (x := 48) 1 kX9 sC_0 (by decide +kernel) rfl rfl tw_430 dX9_clock_46 ?_
        refine V_iload_n (Y := m_X9_clock) (pc := 49) 1 dX9_clock_49 rfl ?_
        refine V_iload_n (Y := m_X9_clock) (pc := 50) 2 dX9_clock_50 rfl ?_
        obtain ⟨q5, hq5, hf⟩ := g_bind hf
        refine V_cVv (Y := m_X9_clock) (pc := 51) (As := [.ref (b + 48), .int x1, .int x2]) yf_X5_find kX5 sC_9 (by decide +kernel) (ok_X5_find 48 x1 x2 q4.2 _ sC_48 hq5) tw_866 tw_867 tw_865 rfl rfl (Nat.le_of_ble_eq_true rfl) dX9_clock_51 ?_
        refine V_iload_n (Y := m_X9_clock) (pc := 54) 3 dX9_clock_54 rfl ?_
        refine V_if_ne (Y := m_X9_clock) (pc := 55) (tgt := 66) dX9_clock_55 (by decide +kernel) hf (fun hf => ?_) (fun hf => ?_)
        · refine V_iload_n (Y := m_X9_clock) (pc := 66) 3 dX9_clock_66 rfl ?_
          refine V_iconst (Y := m_X9_clock) (pc := 67) (x := (1 : Int32)) dX9_clock_67 (by decide +kernel) ?_
          refine V_icmp_ne (Y := m_X9_clock) (pc := 68) (tgt := 81) dX9_clock_68 (by decide +kernel) hf (fun hf => ?_) (fun hf => ?_)
          · refine V_aload_n (Y := m_X9_clock) (pc := 81) 0 dX9_clock_81 rfl ?_
            refine V_grL (Y := m_X9_clock) (pc := 82) (x := 9) 5 kX9 sC_0 (by decide +kernel) rfl rfl tw_434 dX9_clock_82 ?_
            refine V_gi (Y := m_X9_clock) (pc := 85) 2 kX5 sC_9 (by decide +kernel) rfl tw_213 dX9_clock_85 ?_
            obtain rfl := Option.some.inj hf
            exact V_iret (Y := m_X9_clock) rfl dX9_clock_88
          · refine V_aload_n (Y := m_X9_clock) (pc := 71) 0 dX9_clock_71 rfl ?_
            refine V_grL (Y := m_X9_clock) (pc := 72) (x := 9) 5 kX9 sC_0 (by decide +kernel) rfl rfl tw_434 dX9_clock_72 ?_
            refine V_gi (Y := m_X9_clock) (pc := 75) 1 kX5 sC_9 (by decide +kernel) rfl tw_211 dX9_clock_75 ?_
            refine V_goto (Y := m_X9_clock) (pc := 78) (tgt := 88) dX9_clock_78 (by decide +kernel) ?_
            obtain rfl := Option.some.inj hf
            exact V_iret (Y := m_X9_clock) rfl dX9_clock_88
        · refine V_aload_n (Y := m_X9_clock) (pc := 58) 0 dX9_clock_58 rfl ?_
          refine V_grL (Y := m_X9_clock) (pc := 59) (x := 9) 5 kX9 sC_0 (by decide +kernel) rfl rfl tw_434 dX9_clock_59 ?_
          refine V_gi (Y := m_X9_clock) (pc := 62) 0 kX5 sC_9 (by decide +kernel) rfl tw_209 dX9_clock_62 ?_
          obtain rfl := Option.some.inj hf
          exact V_iret (Y := m_X9_clock) rfl dX9_clock_65
      · refine V_ldc (Y := m_X9_clock) (pc := 26) (x := (-1000000001 : Int32)) dX9_clock_26 tw_481 ?_
        obtain rfl := Option.some.inj hf
        exact V_iret (Y := m_X9_clock) rfl dX9_clock_28
def f_X9_clock (x1 : Int32) (x2 : Int32) (x3 : Int32) (M : Mem) : Option (Int32 × Mem) := f_X9_clock_b0 x1 x2 x3 M
set_option maxRecDepth 20000 in
set_option maxHeartbeats 4000000 in
theorem ok_X9_clock {l : Launch} {g : Gam} {b : Nat} : ∀ (x1 : Int32) (x2 : Int32) (x3 : Int32) (M : Mem) (z : Int32 × Mem), f_X9_clock x1 x2 x3 M = some z → Cn l g (wC b) m_X9_clock [.ref (b + 0), .int x1, .int x2, .int x3] M (some (.int z.1)) z.2 := fun x1 x2 x3 M z  hf => Cn_of (by decide +kernel) (Nat.le_of_ble_eq_true rfl) (V_sub [0, 1, 2, 3] rfl (ok_X9_clock_b0 x1 x2 x3 M z  hf))

abbrev m_X9_smooth : Mth := (yX9_smooth, cX9_smooth, 2, some .int, 3)
theorem yf_X9_smooth : YF m_X9_smooth 1 := ⟨tw_882, tw_65, by decide +kernel, by decide +kernel⟩
def f_X9_smooth_b0  (x1 : Int32) (M : Mem) : Option (Int32 × Mem) :=
  (f_X9_isBelow x1 (4 : Int32) M).bind fun q1 =>
  if q1.1 = 0 then
    some ((-1000000001 : Int32), q1.2)
  else
    if ixb x1 4 = true then
    (f_X6_isMissing (rfC 14 (ix x1)) q1.2).bind fun q3 =>
    if q3.1 = 0 then
      if ixb x1 4 = true then
      (f_X6_smoothen (rfC 14 (ix x1)) q3.2).bind fun q5 =>
      some (q5.1, q5.2)
      else none
    else
      some ((-1000000011 : Int32), q3.2)
    else none
set_option maxRecDepth 20000 in
set_option maxHeartbeats 4000000 in
theorem ok_X9_smooth_b0 {l : Launch} {g : Gam} {b : Nat}   (x1 : Int32) (M : Mem) (z : Int32 × Mem)  (hf : f_X9_smooth_b0 x1 M = some z) : V l g (wC b) m_X9_smooth 0 [(0, .ref (b + 0)), (1, .int x1)] [] M (some (.int z.1)) z.2 := by
  unfold f_X9_smooth_b0 at hf
  refine V_iload_n (Y := m_X9_smooth) (pc := 0) 1 dX9_smooth_0 rfl ?_
  refine V_iconst (Y := m_X9_smooth) (pc := 1) (x := (4 : Int32)) dX9_smooth_1 (by decide +kernel) ?_
  obtain ⟨q1, hq1, hf⟩ := g_bind hf
  refine V_cSi (Y := m_X9_smooth) (pc := 2) (As := [.int x1, .int (4 : Int32)]) yf_X9_isBelow (by decide +kernel) (ok_X9_isBelow x1 (4 : Int32) M _  hq1) tw_473 tw_472 rfl rfl (Nat.le_of_ble_eq_true rfl) dX9_smooth_2 ?_
  refine V_if_ne (Y := m_X9_smooth) (pc := 5) (tgt := 11) dX9_smooth_5 (by decide +kernel) hf (fun hf => ?_) (fun hf => ?_)
  · refine V_aload_n (Y := m_X9_smooth) (pc := 11) 0 dX9_smooth_11 rfl ?_
    refine V_grL (Y := m_X9_smooth) (pc := 12) (x := 14) 6 kX9 sC_0 (by decide +kernel) rfl rfl tw_435 dX9_smooth_12 ?_
    refine V_iload_n (Y := m_X9_smooth) (pc := 15) 1 dX9_smooth_15 rfl ?_
    obtain ⟨hi2, hf⟩ := g_if hf
    refine V_aald (Y := m_X9_smooth) (pc := 16) 3 rfl sC_14 hi2 dX9_smooth_16 ?_
    obtain ⟨q3, hq3, hf⟩ := g_bind hf
    refine V_cVi (Y := m_X9_smooth) (pc := 17) (As := []) yf_X6_isMissing kX6 (wtC.2 _ _ _ sC_14 _ (ixb_lt hi2)) (by decide +kernel) (ok_X6_isMissing (rfC 14 (ix x1)) q1.2 _ (wtC.2 _ _ _ sC_14 _ (ixb_lt hi2)) hq3) tw_884 tw_885 tw_883 rfl rfl (Nat.le_of_ble_eq_true rfl) dX9_smooth_17 ?_
    refine V_if_eq (Y := m_X9_smooth) (pc := 20) (tgt := 29) dX9_smooth_20 (by decide +kernel) hf (fun hf => ?_) (fun hf => ?_)
    · refine V_aload_n (Y := m_X9_smooth) (pc := 29) 0 dX9_smooth_29 rfl ?_
      refine V_grL (Y := m_X9_smooth) (pc := 30) (x := 14) 6 kX9 sC_0 (by decide +kernel) rfl rfl tw_435 dX9_smooth_30 ?_
      refine V_iload_n (Y := m_X9_smooth) (pc := 33) 1 dX9_smooth_33 rfl ?_
      obtain ⟨hi4, hf⟩ := g_if hf
      refine V_aald (Y := m_X9_smooth) (pc := 34) 3 rfl sC_14 hi4 dX9_smooth_34 ?_
      obtain ⟨q5, hq5, hf⟩ := g_bind hf
      refine V_cVi (Y := m_X9_smooth) (pc := 35) (As := []) yf_X6_smoothen kX6 (wtC.2 _ _ _ sC_14 _ (ixb_lt hi4)) (by decide +kernel) (ok_X6_smoothen (rfC 14 (ix x1)) q3.2 _ (wtC.2 _ _ _ sC_14 _ (ixb_lt hi4)) hq5) tw_889 tw_890 tw_888 rfl rfl (Nat.le_of_ble_eq_true rfl) dX9_smooth_35 ?_
      obtain rfl := Option.some.inj hf
      exact V_iret (Y := m_X9_smooth) rfl dX9_smooth_38
    · refine V_ldcw (Y := m_X9_smooth) (pc := 23) (x := (-1000000011 : Int32)) dX9_smooth_23 tw_887 ?_
      refine V_goto (Y := m_X9_smooth) (pc := 26) (tgt := 38) dX9_smooth_26 (by decide +kernel) ?_
      obtain rfl := Option.some.inj hf
      exact V_iret (Y := m_X9_smooth) rfl dX9_smooth_38
  · refine V_ldc (Y := m_X9_smooth) (pc := 8) (x := (-1000000001 : Int32)) dX9_smooth_8 tw_481 ?_
    obtain rfl := Option.some.inj hf
    exact V_iret (Y := m_X9_smooth) rfl dX9_smooth_10
def f_X9_smooth (x1 : Int32) (M : Mem) : Option (Int32 × Mem) := f_X9_smooth_b0 x1 M
set_option maxRecDepth 20000 in
set_option maxHeartbeats 4000000 in
theorem ok_X9_smooth {l : Launch} {g : Gam} {b : Nat} : ∀ (x1 : Int32) (M : Mem) (z : Int32 × Mem), f_X9_smooth x1 M = some z → Cn l g (wC b) m_X9_smooth [.ref (b + 0), .int x1] M (some (.int z.1)) z.2 := fun x1 M z  hf => Cn_of (by decide +kernel) (Nat.le_of_ble_eq_true rfl) (V_sub [0, 1] rfl (ok_X9_smooth_b0 x1 M z  hf))

abbrev m_X9_changesBetween : Mth := (yX9_changesBetween, cX9_changesBetween, 8, some .int, 1)
theorem yf_X9_changesBetween : YF m_X9_changesBetween 2 := ⟨tw_905, tw_65, by decide +kernel, by decide +kernel⟩
def f_X9_changesBetween_b144  (a2 : Nat) (M : Mem) : Option (Int32 × Mem) :=
  if ixb (M a2 1) 25 = true then
  some ((M 16 (ix (M a2 1))), M)
  else none
set_option maxRecDepth 20000 in
set_option maxHeartbeats 4000000 in
theorem ok_X9_changesBetween_b144 {l : Launch} {g : Gam} {b : Nat}   (a2 : Nat) (M : Mem) (z : Int32 × Mem) (ha2 : shC[a2]? = some (1, 6)) (hf : f_X9_changesBetween_b144 a2 M = some z) : V l g (wC b) m_X9_changesBetween 144 [(0, .ref (b + 0)), (2, .ref (b + a2))] [] M (some (.int z.1)) z.2 := by
  unfold f_X9_changesBetween_b144 at hf
  refine V_aload_n (Y := m_X9_changesBetween) (pc := 144) 0 dX9_changesBetween_144 rfl ?_
  refine V_grL (Y := m_X9_changesBetween) (pc := 145) (x := 16) 8 kX9 sC_0 (by decide +kernel) rfl rfl tw_437 dX9_changesBetween_145 ?_
  refine V_aload_n (Y := m_X9_changesBetween) (pc := 148) 1 dX9_changesBetween_148 rfl ?_
  refine V_gi (Y := m_X9_changesBetween) (pc := 149) 1 kX6 ha2 (by decide +kernel) rfl tw_395 dX9_changesBetween_149 ?_
  obtain ⟨hi1, hf⟩ := g_if hf
  refine V_iald (Y := m_X9_changesBetween) (pc := 152) sC_16 hi1 dX9_changesBetween_152 ?_
  obtain rfl := Option.some.inj hf
  exact V_iret (Y := m_X9_changesBetween) rfl dX9_changesBetween_153
def f_X9_changesBetween_b138 (k25 : Nat → Nat → Int32 → Mem → Option (Int32 × Mem)) (a1 : Nat) (a2 : Nat) (x3 : Int32) (M : Mem) : Option (Int32 × Mem) :=
  k25 a1 a2 (x3 + (1 : Int32)) M
set_option maxRecDepth 20000 in
set_option maxHeartbeats 4000000 in
theorem ok_X9_changesBetween_b138 {l : Launch} {g : Gam} {b : Nat} (k25 : Nat → Nat → Int32 → Mem → Option (Int32 × Mem)) (hk25 : ∀ (a1 : Nat) (a2 : Nat) (x3 : Int32) (M : Mem) (z : Int32 × Mem), shC[a1]? = some (1, 6) → shC[a2]? = some (1, 6) → k25 a1 a2 x3 M = some z → V l g (wC b) m_X9_changesBetween 25 [(0, .ref (b + 0)), (1, .ref (b + a1)), (2, .ref (b + a2)), (3, .int x3)] [] M (some (.int z.1)) z.2) (a1 : Nat) (a2 : Nat) (x3 : Int32) (M : Mem) (z : Int32 × Mem) (ha1 : shC[a1]? = some (1, 6)) (ha2 : shC[a2]? = some (1, 6)) (hf : f_X9_changesBetween_b138 k25 a1 a2 x3 M = some z) : V l g (wC b) m_X9_changesBetween 138 [(0, .ref (b + 0)), (1, .ref (b + a1)), (2, .ref (b + a2)), (3, .int x3)] [] M (some (.int z.1)) z.2 := by
  unfold f_X9_changesBetween_b138 at hf
  refine V_iinc (Y := m_X9_changesBetween) (pc := 138) (y := (x3 + (1 : Int32))) 3 [(3, .int (x3 + (1 : Int32))), (0, .ref (b + 0)), (1, .ref (b + a1)), (2, .ref (b + a2))] dX9_changesBetween_138 rfl rfl (by decide +kernel) rfl ?_
  refine V_goto (Y := m_X9_changesBetween) (pc := 141) (tgt := 25) dX9_changesBetween_141 (by decide +kernel) ?_
  exact V_sub [1, 2, 3, 0] rfl (hk25 a1 a2 (x3 + (1 : Int32)) M z ha1 ha2 hf)
def f_X9_changesBetween_b98 (k25 : Nat → Nat → Int32 → Mem → Option (Int32 × Mem)) (k51 : Nat → Nat → Int32 → Int32 → Int32 → Mem → Option (Int32 × Mem)) (a1 : Nat) (a2 : Nat) (x3 : Int32) (x5 : Int32) (x6 : Int32) (s0 : Int32) (M : Mem) : Option (Int32 × Mem) :=
  if ixb (x5 - (1 : Int32)) 25 = true then
  if ixb x5 25 = true then
  k51 a1 a2 x3 x6 (x5 + (1 : Int32)) (mset M 16 (ix x5) (imin s0 ((imin x6 (M 16 (ix (x5 - (1 : Int32))))) + (1 : Int32))))
  else none
  else none
set_option maxRecDepth 20000 in
set_option maxHeartbeats 4000000 in
theorem ok_X9_changesBetween_b98 {l : Launch} {g : Gam} {b : Nat} (k25 : Nat → Nat → Int32 → Mem → Option (Int32 × Mem)) (k51 : Nat → Nat → Int32 → Int32 → Int32 → Mem → Option (Int32 × Mem)) (hk25 : ∀ (a1 : Nat) (a2 : Nat) (x3 : Int32) (M : Mem) (z : Int32 × Mem), shC[a1]? = some (1, 6) → shC[a2]? = some (1, 6) → k25 a1 a2 x3 M = some z → V l g (wC b) m_X9_changesBetween 25 [(0, .ref (b + 0)), (1, .ref (b + a1)), (2, .ref (b + a2)), (3, .int x3)] [] M (some (.int z.1)) z.2) (hk51 : ∀ (a1 : Nat) (a2 : Nat) (x3 : Int32) (x4 : Int32) (x5 : Int32) (M : Mem) (z : Int32 × Mem), shC[a1]? = some (1, 6) → shC[a2]? = some (1, 6) → k51 a1 a2 x3 x4 x5 M = some z → V l g (wC b) m_X9_changesBetween 51 [(0, .ref (b + 0)), (1, .ref (b + a1)), (2, .ref (b + a2)), (3, .int x3), (4, .int x4), (5, .int x5)] [] M (some (.int z.1)) z.2) (a1 : Nat) (a2 : Nat) (x3 : Int32) (x5 : Int32) (x6 : Int32) (s0 : Int32) (M : Mem) (z : Int32 × Mem) (ha1 : shC[a1]? = some (1, 6)) (ha2 : shC[a2]? = some (1, 6)) (hf : f_X9_changesBetween_b98 k25 k51 a1 a2 x3 x5 x6 s0 M = some z) : V l g (wC b) m_X9_changesBetween 98 [(0, .ref (b + 0)), (1, .ref (b + a1)), (2, .ref (b + a2)), (3, .int x3), (5, .int x5), (6, .int x6)] [.int s0] M (some (.int z.1)) z.2 := by
  unfold f_X9_changesBetween_b98 at hf
  refine V_istore (Y := m_X9_changesBetween) (pc := 98) [(7, .int s0), (0, .ref (b + 0)), (1, .ref (b + a1)), (2, .ref (b + a2)), (3, .int x3), (5, .int x5), (6, .int x6)] dX9_changesBetween_98 (by decide +kernel) rfl ?_
  refine V_aload_n (Y := m_X9_changesBetween) (pc := 100) 1 dX9_changesBetween_100 rfl ?_
  refine V_grL (Y := m_X9_changesBetween) (pc := 101) (x := 16) 8 kX9 sC_0 (by decide +kernel) rfl rfl tw_437 dX9_changesBetween_101 ?_
  refine V_iload (Y := m_X9_changesBetween) (pc := 104) 5 dX9_changesBetween_104 rfl ?_
  refine V_iload (Y := m_X9_changesBetween) (pc := 106) 0 dX9_changesBetween_106 rfl ?_
  refine V_iload (Y := m_X9_changesBetween) (pc := 108) 6 dX9_changesBetween_108 rfl ?_
  refine V_aload_n (Y := m_X9_changesBetween) (pc := 110) 1 dX9_changesBetween_110 rfl ?_
  refine V_grL (Y := m_X9_changesBetween) (pc := 111) (x := 16) 8 kX9 sC_0 (by decide +kernel) rfl rfl tw_437 dX9_changesBetween_111 ?_
  refine V_iload (Y := m_X9_changesBetween) (pc := 114) 5 dX9_changesBetween_114 rfl ?_
  refine V_iconst (Y := m_X9_changesBetween) (pc := 116) (x := (1 : Int32)) dX9_changesBetween_116 (by decide +kernel) ?_
  refine V_isub (Y := m_X9_changesBetween) (pc := 117) dX9_changesBetween_117 ?_
  obtain ⟨hi1, hf⟩ := g_if hf
  refine V_iald (Y := m_X9_changesBetween) (pc := 118) sC_16 hi1 dX9_changesBetween_118 ?_
  refine V_mmin (Y := m_X9_changesBetween) (pc := 119) (by decide +kernel) j_mmin tw_823 (Nat.le_of_ble_eq_true rfl) dX9_changesBetween_119 ?_
  refine V_iconst (Y := m_X9_changesBetween) (pc := 122) (x := (1 : Int32)) dX9_changesBetween_122 (by decide +kernel) ?_
  refine V_iadd (Y := m_X9_changesBetween) (pc := 123) dX9_changesBetween_123 ?_
  refine V_mmin (Y := m_X9_changesBetween) (pc := 124) (by decide +kernel) j_mmin tw_823 (Nat.le_of_ble_eq_true rfl) dX9_changesBetween_124 ?_
  obtain ⟨hi2, hf⟩ := g_if hf
  refine V_iast (Y := m_X9_changesBetween) (pc := 127) sC_16 hi2 dX9_changesBetween_127 ?_
  refine V_iload (Y := m_X9_changesBetween) (pc := 128) 6 dX9_changesBetween_128 rfl ?_
  refine V_istore (Y := m_X9_changesBetween) (pc := 130) [(4, .int x6), (7, .int s0), (0, .ref (b + 0)), (1, .ref (b + a1)), (2, .ref (b + a2)), (3, .int x3), (5, .int x5), (6, .int x6)] dX9_changesBetween_130 (by decide +kernel) rfl ?_
  refine V_iinc (Y := m_X9_changesBetween) (pc := 132) (y := (x5 + (1 : Int32))) 6 [(5, .int (x5 + (1 : Int32))), (4, .int x6), (7, .int s0), (0, .ref (b + 0)), (1, .ref (b + a1)), (2, .ref (b + a2)), (3, .int x3), (6, .int x6)] dX9_changesBetween_132 rfl rfl (by decide +kernel) rfl ?_
  refine V_goto (Y := m_X9_changesBetween) (pc := 135) (tgt := 51) dX9_changesBetween_135 (by decide +kernel) ?_
  exact V_sub [3, 4, 5, 6, 1, 0] rfl (hk51 a1 a2 x3 x6 (x5 + (1 : Int32)) (mset M 16 (ix x5) (imin s0 ((imin x6 (M 16 (ix (x5 - (1 : Int32))))) + (1 : Int32)))) z ha1 ha2 hf)
def f_X9_changesBetween_b51 (k25 : Nat → Nat → Int32 → Mem → Option (Int32 × Mem)) : Nat → Nat → Nat → Int32 → Int32 → Int32 → Mem → Option (Int32 × Mem)
  | 0, _, _, _, _, _, _ => none
  | n + 1, a1, a2, x3, x4, x5, M =>
    if (M a2 1) < x5 then
      f_X9_changesBetween_b138 k25 a1 a2 x3 M
    else
      if ixb x5 25 = true then
      if ixb (x3 - (1 : Int32)) 24 = true then
      if ixb (x5 - (1 : Int32)) 24 = true then
      if (M (rfC a1 2) (ix (x3 - (1 : Int32)))) = (M (rfC a2 2) (ix (x5 - (1 : Int32)))) then
        f_X9_changesBetween_b98 k25 (f_X9_changesBetween_b51 k25 n) a1 a2 x3 x5 (M 16 (ix x5)) x4 M
      else
        f_X9_changesBetween_b98 k25 (f_X9_changesBetween_b51 k25 n) a1 a2 x3 x5 (M 16 (ix x5)) (x4 + (1 : Int32)) M
      else none
      else none
      else none
set_option maxRecDepth 20000 in
set_option maxHeartbeats 4000000 in
theorem ok_X9_changesBetween_b51 {l : Launch} {g : Gam} {b : Nat} (k25 : Nat → Nat → Int32 → Mem → Option (Int32 × Mem)) (hk25 : ∀ (a1 : Nat) (a2 : Nat) (x3 : Int32) (M : Mem) (z : Int32 × Mem), shC[a1]? = some (1, 6) → shC[a2]? = some (1, 6) → k25 a1 a2 x3 M = some z → V l g (wC b) m_X9_changesBetween 25 [(0, .ref (b + 0)), (1, .ref (b + a1)), (2, .ref (b + a2)), (3, .int x3)] [] M (some (.int z.1)) z.2) : ∀ (n : Nat) (a1 : Nat) (a2 : Nat) (x3 : Int32) (x4 : Int32) (x5 : Int32) (M : Mem) (z : Int32 × Mem), (ha1 : shC[a1]? = some (1, 6)) → (ha2 : shC[a2]? = some (1, 6)) → f_X9_changesBetween_b51 k25 n a1 a2 x3 x4 x5 M = some z → V l g (wC b) m_X9_changesBetween 51 [(0, .ref (b + 0)), (1, .ref (b + a1)), (2, .ref (b + a2)), (3, .int x3), (4, .int x4), (5, .int x5)] [] M (some (.int z.1)) z.2 := by
  intro n
  induction n with
  | zero =>
    intro a1 a2 x3 x4 x5 M z ha1 ha2 hf
    cases hf
  | succ n ih =>
    intro a1 a2 x3 x4 x5 M z ha1 ha2 hf
    rw [f_X9_changesBetween_b51] at hf
    refine V_iload (Y := m_X9_changesBetween) (pc := 51) 5 dX9_changesBetween_51 rfl ?_
    refine V_aload_n (Y := m_X9_changesBetween) (pc := 53) 2 dX9_changesBetween_53 rfl ?_
    refine V_gi (Y := m_X9_changesBetween) (pc := 54) 1 kX6 ha2 (by decide +kernel) rfl tw_395 dX9_changesBetween_54 ?_
    refine V_icmp_gt (Y := m_X9_changesBetween) (pc := 57) (tgt := 138) dX9_changesBetween_57 (by decide +kernel) hf (fun hf => ?_) (fun hf => ?_)
    · exact V_sub [0, 1, 2, 3] rfl (ok_X9_changesBetween_b138 k25 hk25 a1 a2 x3 M z ha1 ha2 hf)
    · refine V_aload_n (Y := m_X9_changesBetween) (pc := 60) 0 dX9_changesBetween_60 rfl ?_
      refine V_grL (Y := m_X9_changesBetween) (pc := 61) (x := 16) 8 kX9 sC_0 (by decide +kernel) rfl rfl tw_437 dX9_changesBetween_61 ?_
      refine V_iload (Y := m_X9_changesBetween) (pc := 64) 5 dX9_changesBetween_64 rfl ?_
      obtain ⟨hi1, hf⟩ := g_if hf
      refine V_iald (Y := m_X9_changesBetween) (pc := 66) sC_16 hi1 dX9_changesBetween_66 ?_
      refine V_istore (Y := m_X9_changesBetween) (pc := 67) [(6, .int (M 16 (ix x5))), (0, .ref (b + 0)), (1, .ref (b + a1)), (2, .ref (b + a2)), (3, .int x3), (4, .int x4), (5, .int x5)] dX9_changesBetween_67 (by decide +kernel) rfl ?_
      refine V_aload_n (Y := m_X9_changesBetween) (pc := 69) 2 dX9_changesBetween_69 rfl ?_
      refine V_gr (Y := m_X9_changesBetween) (pc := 70) 2 kX6 ha1 (by decide +kernel) rfl tw_397 dX9_changesBetween_70 ?_
      refine V_iload_n (Y := m_X9_changesBetween) (pc := 73) 4 dX9_changesBetween_73 rfl ?_
      refine V_iconst (Y := m_X9_changesBetween) (pc := 74) (x := (1 : Int32)) dX9_changesBetween_74 (by decide +kernel) ?_
      refine V_isub (Y := m_X9_changesBetween) (pc := 75) dX9_changesBetween_75 ?_
      obtain ⟨hi2, hf⟩ := g_if hf
      refine V_iald (Y := m_X9_changesBetween) (pc := 76) (wtC.1 _ _ ha1 2 _ rfl) hi2 dX9_changesBetween_76 ?_
      refine V_aload_n (Y := m_X9_changesBetween) (pc := 77) 3 dX9_changesBetween_77 rfl ?_
      refine V_gr (Y := m_X9_changesBetween) (pc := 78) 2 kX6 ha2 (by decide +kernel) rfl tw_397 dX9_changesBetween_78 ?_
      refine V_iload (Y := m_X9_changesBetween) (pc := 81) 6 dX9_changesBetween_81 rfl ?_
      refine V_iconst (Y := m_X9_changesBetween) (pc := 83) (x := (1 : Int32)) dX9_changesBetween_83 (by decide +kernel) ?_
      refine V_isub (Y := m_X9_changesBetween) (pc := 84) dX9_changesBetween_84 ?_
      obtain ⟨hi3, hf⟩ := g_if hf
      refine V_iald (Y := m_X9_changesBetween) (pc := 85) (wtC.1 _ _ ha2 2 _ rfl) hi3 dX9_changesBetween_85 ?_
      refine V_icmp_ne (Y := m_X9_changesBetween) (pc := 86) (tgt := 94) dX9_changesBetween_86 (by decide +kernel) hf (fun hf => ?_) (fun hf => ?_)
      · refine V_iload (Y := m_X9_changesBetween) (pc := 94) 5 dX9_changesBetween_94 rfl ?_
        refine V_iconst (Y := m_X9_changesBetween) (pc := 96) (x := (1 : Int32)) dX9_changesBetween_96 (by decide +kernel) ?_
        refine V_iadd (Y := m_X9_changesBetween) (pc := 97) dX9_changesBetween_97 ?_
        exact V_sub [1, 2, 3, 4, 6, 0] rfl (ok_X9_changesBetween_b98 k25 (f_X9_changesBetween_b51 k25 n) hk25 ih a1 a2 x3 x5 (M 16 (ix x5)) (x4 + (1 : Int32)) M z ha1 ha2 hf)
      · refine V_iload (Y := m_X9_changesBetween) (pc := 89) 5 dX9_changesBetween_89 rfl ?_
        refine V_goto (Y := m_X9_changesBetween) (pc := 91) (tgt := 98) dX9_changesBetween_91 (by decide +kernel) ?_
        exact V_sub [1, 2, 3, 4, 6, 0] rfl (ok_X9_changesBetween_b98 k25 (f_X9_changesBetween_b51 k25 n) hk25 ih a1 a2 x3 x5 (M 16 (ix x5)) x4 M z ha1 ha2 hf)
def f_X9_changesBetween_b25  : Nat → Nat → Nat → Int32 → Mem → Option (Int32 × Mem)
  | 0, _, _, _, _ => none
  | n + 1, a1, a2, x3, M =>
    if (M a1 1) < x3 then
      f_X9_changesBetween_b144  a2 M
    else
      f_X9_changesBetween_b51 (f_X9_changesBetween_b25  n) FU a1 a2 x3 (M 16 0) (1 : Int32) (mset M 16 0 x3)
set_option maxRecDepth 20000 in
set_option maxHeartbeats 4000000 in
theorem ok_X9_changesBetween_b25 {l : Launch} {g : Gam} {b : Nat}   : ∀ (n : Nat) (a1 : Nat) (a2 : Nat) (x3 : Int32) (M : Mem) (z : Int32 × Mem), (ha1 : shC[a1]? = some (1, 6)) → (ha2 : shC[a2]? = some (1, 6)) → f_X9_changesBetween_b25  n a1 a2 x3 M = some z → V l g (wC b) m_X9_changesBetween 25 [(0, .ref (b + 0)), (1, .ref (b + a1)), (2, .ref (b + a2)), (3, .int x3)] [] M (some (.int z.1)) z.2 := by
  intro n
  induction n with
  | zero =>
    intro a1 a2 x3 M z ha1 ha2 hf
    cases hf
  | succ n ih =>
    intro a1 a2 x3 M z ha1 ha2 hf
    rw [f_X9_changesBetween_b25] at hf
    refine V_iload_n (Y := m_X9_changesBetween) (pc := 25) 3 dX9_changesBetween_25 rfl ?_
    refine V_aload_n (Y := m_X9_changesBetween) (pc := 26) 1 dX9_changesBetween_26 rfl ?_
    refine V_gi (Y := m_X9_changesBetween) (pc := 27) 1 kX6 ha1 (by decide +kernel) rfl tw_395 dX9_changesBetween_27 ?_
    refine V_icmp_gt (Y := m_X9_changesBetween) (pc := 30) (tgt := 144) dX9_changesBetween_30 (by decide +kernel) hf (fun hf => ?_) (fun hf => ?_)
    · exact V_sub [0, 2] rfl (ok_X9_changesBetween_b144  a2 M z ha2 hf)
    · refine V_aload_n (Y := m_X9_changesBetween) (pc := 33) 0 dX9_changesBetween_33 rfl ?_
      refine V_grL (Y := m_X9_changesBetween) (pc := 34) (x := 16) 8 kX9 sC_0 (by decide +kernel) rfl rfl tw_437 dX9_changesBetween_34 ?_
      refine V_iconst (Y := m_X9_changesBetween) (pc := 37) (x := (0 : Int32)) dX9_changesBetween_37 (by decide +kernel) ?_
      refine V_ialdL (Y := m_X9_changesBetween) (pc := 38) (j := 0) sC_16 (by decide +kernel) rfl dX9_changesBetween_38 ?_
      refine V_istore (Y := m_X9_changesBetween) (pc := 39) [(4, .int (M 16 0)), (0, .ref (b + 0)), (1, .ref (b + a1)), (2, .ref (b + a2)), (3, .int x3)] dX9_changesBetween_39 (by decide +kernel) rfl ?_
      refine V_aload_n (Y := m_X9_changesBetween) (pc := 41) 1 dX9_changesBetween_41 rfl ?_
      refine V_grL (Y := m_X9_changesBetween) (pc := 42) (x := 16) 8 kX9 sC_0 (by decide +kernel) rfl rfl tw_437 dX9_changesBetween_42 ?_
      refine V_iconst (Y := m_X9_changesBetween) (pc := 45) (x := (0 : Int32)) dX9_changesBetween_45 (by decide +kernel) ?_
      refine V_iload_n (Y := m_X9_changesBetween) (pc := 46) 4 dX9_changesBetween_46 rfl ?_
      refine V_iastL (Y := m_X9_changesBetween) (pc := 47) (j := 0) sC_16 (by decide +kernel) rfl dX9_changesBetween_47 ?_
      refine V_iconst (Y := m_X9_changesBetween) (pc := 48) (x := (1 : Int32)) dX9_changesBetween_48 (by decide +kernel) ?_
      refine V_istore (Y := m_X9_changesBetween) (pc := 49) [(5, .int (1 : Int32)), (4, .int (M 16 0)), (0, .ref (b + 0)), (1, .ref (b + a1)), (2, .ref (b + a2)), (3, .int x3)] dX9_changesBetween_49 (by decide +kernel) rfl ?_
      exact V_sub [2, 3, 4, 5, 1, 0] rfl (ok_X9_changesBetween_b51 (f_X9_changesBetween_b25  n) ih FU a1 a2 x3 (M 16 0) (1 : Int32) (mset M 16 0 x3) z ha1 ha2 hf)
def f_X9_changesBetween_b23  (a1 : Nat) (a2 : Nat) (M : Mem) : Option (Int32 × Mem) :=
  f_X9_changesBetween_b25  FU a1 a2 (1 : Int32) M
set_option maxRecDepth 20000 in
set_option maxHeartbeats 4000000 in
theorem ok_X9_changesBetween_b23 {l : Launch} {g : Gam} {b : Nat}   (a1 : Nat) (a2 : Nat) (M : Mem) (z : Int32 × Mem) (ha1 : shC[a1]? = some (1, 6)) (ha2 : shC[a2]? = some (1, 6)) (hf : f_X9_changesBetween_b23 a1 a2 M = some z) : V l g (wC b) m_X9_changesBetween 23 [(0, .ref (b + 0)), (1, .ref (b + a1)), (2, .ref (b + a2))] [] M (some (.int z.1)) z.2 := by
  unfold f_X9_changesBetween_b23 at hf
  refine V_iconst (Y := m_X9_changesBetween) (pc := 23) (x := (1 : Int32)) dX9_changesBetween_23 (by decide +kernel) ?_
  refine V_istore_n (Y := m_X9_changesBetween) (pc := 24) [(3, .int (1 : Int32)), (0, .ref (b + 0)), (1, .ref (b + a1)), (2, .ref (b + a2))] dX9_changesBetween_24 (by decide +kernel) rfl ?_
  exact V_sub [1, 2, 3, 0] rfl (ok_X9_changesBetween_b25  FU a1 a2 (1 : Int32) M z ha1 ha2 hf)
def f_X9_changesBetween_b2  : Nat → Nat → Nat → Int32 → Mem → Option (Int32 × Mem)
  | 0, _, _, _, _ => none
  | n + 1, a1, a2, x3, M =>
    if (M a2 1) < x3 then
      f_X9_changesBetween_b23  a1 a2 M
    else
      if ixb x3 25 = true then
      f_X9_changesBetween_b2  n a1 a2 (x3 + (1 : Int32)) (mset M 16 (ix x3) x3)
      else none
set_option maxRecDepth 20000 in
set_option maxHeartbeats 4000000 in
theorem ok_X9_changesBetween_b2 {l : Launch} {g : Gam} {b : Nat}   : ∀ (n : Nat) (a1 : Nat) (a2 : Nat) (x3 : Int32) (M : Mem) (z : Int32 × Mem), (ha1 : shC[a1]? = some (1, 6)) → (ha2 : shC[a2]? = some (1, 6)) → f_X9_changesBetween_b2  n a1 a2 x3 M = some z → V l g (wC b) m_X9_changesBetween 2 [(0, .ref (b + 0)), (1, .ref (b + a1)), (2, .ref (b + a2)), (3, .int x3)] [] M (some (.int z.1)) z.2 := by
  intro n
  induction n with
  | zero =>
    intro a1 a2 x3 M z ha1 ha2 hf
    cases hf
  | succ n ih =>
    intro a1 a2 x3 M z ha1 ha2 hf
    rw [f_X9_changesBetween_b2] at hf
    refine V_iload_n (Y := m_X9_changesBetween) (pc := 2) 3 dX9_changesBetween_2 rfl ?_
    refine V_aload_n (Y := m_X9_changesBetween) (pc := 3) 2 dX9_changesBetween_3 rfl ?_
    refine V_gi (Y := m_X9_changesBetween) (pc := 4) 1 kX6 ha2 (by decide +kernel) rfl tw_395 dX9_changesBetween_4 ?_
    refine V_icmp_gt (Y := m_X9_changesBetween) (pc := 7) (tgt := 23) dX9_changesBetween_7 (by decide +kernel) hf (fun hf => ?_) (fun hf => ?_)
    · exact V_sub [0, 1, 2] rfl (ok_X9_changesBetween_b23  a1 a2 M z ha1 ha2 hf)
    · refine V_aload_n (Y := m_X9_changesBetween) (pc := 10) 0 dX9_changesBetween_10 rfl ?_
      refine V_grL (Y := m_X9_changesBetween) (pc := 11) (x := 16) 8 kX9 sC_0 (by decide +kernel) rfl rfl tw_437 dX9_changesBetween_11 ?_
      refine V_iload_n (Y := m_X9_changesBetween) (pc := 14) 3 dX9_changesBetween_14 rfl ?_
      refine V_iload_n (Y := m_X9_changesBetween) (pc := 15) 3 dX9_changesBetween_15 rfl ?_
      obtain ⟨hi1, hf⟩ := g_if hf
      refine V_iast (Y := m_X9_changesBetween) (pc := 16) sC_16 hi1 dX9_changesBetween_16 ?_
      refine V_iinc (Y := m_X9_changesBetween) (pc := 17) (y := (x3 + (1 : Int32))) 3 [(3, .int (x3 + (1 : Int32))), (0, .ref (b + 0)), (1, .ref (b + a1)), (2, .ref (b + a2))] dX9_changesBetween_17 rfl rfl (by decide +kernel) rfl ?_
      refine V_goto (Y := m_X9_changesBetween) (pc := 20) (tgt := 2) dX9_changesBetween_20 (by decide +kernel) ?_
      exact V_sub [1, 2, 3, 0] rfl (ih a1 a2 (x3 + (1 : Int32)) (mset M 16 (ix x3) x3) z ha1 ha2 hf)
def f_X9_changesBetween_b0  (a1 : Nat) (a2 : Nat) (M : Mem) : Option (Int32 × Mem) :=
  f_X9_changesBetween_b2  FU a1 a2 (0 : Int32) M
set_option maxRecDepth 20000 in
set_option maxHeartbeats 4000000 in
theorem ok_X9_changesBetween_b0 {l : Launch} {g : Gam} {b : Nat}   (a1 : Nat) (a2 : Nat) (M : Mem) (z : Int32 × Mem) (ha1 : shC[a1]? = some (1, 6)) (ha2 : shC[a2]? = some (1, 6)) (hf : f_X9_changesBetween_b0 a1 a2 M = some z) : V l g (wC b) m_X9_changesBetween 0 [(0, .ref (b + 0)), (1, .ref (b + a1)), (2, .ref (b + a2))] [] M (some (.int z.1)) z.2 := by
  unfold f_X9_changesBetween_b0 at hf
  refine V_iconst (Y := m_X9_changesBetween) (pc := 0) (x := (0 : Int32)) dX9_changesBetween_0 (by decide +kernel) ?_
  refine V_istore_n (Y := m_X9_changesBetween) (pc := 1) [(3, .int (0 : Int32)), (0, .ref (b + 0)), (1, .ref (b + a1)), (2, .ref (b + a2))] dX9_changesBetween_1 (by decide +kernel) rfl ?_
  exact V_sub [1, 2, 3, 0] rfl (ok_X9_changesBetween_b2  FU a1 a2 (0 : Int32) M z ha1 ha2 hf)
def f_X9_changesBetween (a1 : Nat) (a2 : Nat) (M : Mem) : Option (Int32 × Mem) := f_X9_changesBetween_b0 a1 a2 M
set_option maxRecDepth 20000 in
set_option maxHeartbeats 4000000 in
theorem ok_X9_changesBetween {l : Launch} {g : Gam} {b : Nat} : ∀ (a1 : Nat) (a2 : Nat) (M : Mem) (z : Int32 × Mem), shC[a1]? = some (1, 6) → shC[a2]? = some (1, 6) → f_X9_changesBetween a1 a2 M = some z → Cn l g (wC b) m_X9_changesBetween [.ref (b + 0), .ref (b + a1), .ref (b + a2)] M (some (.int z.1)) z.2 := fun a1 a2 M z ha1 ha2 hf => Cn_of (by decide +kernel) (Nat.le_of_ble_eq_true rfl) (V_sub [0, 1, 2] rfl (ok_X9_changesBetween_b0 a1 a2 M z ha1 ha2 hf))

abbrev m_X9_changes : Mth := (yX9_changes, cX9_changes, 5, some .int, 2)
theorem yf_X9_changes : YF m_X9_changes 2 := ⟨tw_901, tw_65, by decide +kernel, by decide +kernel⟩
def f_X9_changes_b49   (M : Mem) : Option (Int32 × Mem) :=
  some ((-1000000011 : Int32), M)
set_option maxRecDepth 20000 in
set_option maxHeartbeats 4000000 in
theorem ok_X9_changes_b49 {l : Launch} {g : Gam} {b : Nat}    (M : Mem) (z : Int32 × Mem)  (hf : f_X9_changes_b49  M = some z) : V l g (wC b) m_X9_changes 49 [] [] M (some (.int z.1)) z.2 := by
  unfold f_X9_changes_b49 at hf
  refine V_ldcw (Y := m_X9_changes) (pc := 49) (x := (-1000000011 : Int32)) dX9_changes_49 tw_887 ?_
  obtain rfl := Option.some.inj hf
  exact V_iret (Y := m_X9_changes) rfl dX9_changes_52
def f_X9_changes_b0  (x1 : Int32) (x2 : Int32) (M : Mem) : Option (Int32 × Mem) :=
  (f_X9_isBelow x1 (4 : Int32) M).bind fun q1 =>
  if q1.1 = 0 then
    some ((-1000000001 : Int32), q1.2)
  else
    (f_X9_isBelow x2 (4 : Int32) q1.2).bind fun q2 =>
    if q2.1 = 0 then
      some ((-1000000001 : Int32), q2.2)
    else
      if ixb x1 4 = true then
      if ixb x2 4 = true then
      (f_X6_isMissing (rfC 14 (ix x1)) q2.2).bind fun q5 =>
      if q5.1 = 0 then
        (f_X6_isMissing (rfC 14 (ix x2)) q5.2).bind fun q6 =>
        if q6.1 = 0 then
          if (q6.2 (rfC 14 (ix x1)) 0) = (q6.2 (rfC 14 (ix x2)) 0) then
            (f_X9_changesBetween (rfC 14 (ix x1)) (rfC 14 (ix x2)) q6.2).bind fun q7 =>
            some (q7.1, q7.2)
          else
            some ((-1000000012 : Int32), q6.2)
        else
          f_X9_changes_b49   q6.2
      else
        f_X9_changes_b49   q5.2
      else none
      else none
set_option maxRecDepth 20000 in
set_option maxHeartbeats 4000000 in
theorem ok_X9_changes_b0 {l : Launch} {g : Gam} {b : Nat}   (x1 : Int32) (x2 : Int32) (M : Mem) (z : Int32 × Mem)  (hf : f_X9_changes_b0 x1 x2 M = some z) : V l g (wC b) m_X9_changes 0 [(0, .ref (b + 0)), (1, .int x1), (2, .int x2)] [] M (some (.int z.1)) z.2 := by
  unfold f_X9_changes_b0 at hf
  refine V_iload_n (Y := m_X9_changes) (pc := 0) 1 dX9_changes_0 rfl ?_
  refine V_iconst (Y := m_X9_changes) (pc := 1) (x := (4 : Int32)) dX9_changes_1 (by decide +kernel) ?_
  obtain ⟨q1, hq1, hf⟩ := g_bind hf
  refine V_cSi (Y := m_X9_changes) (pc := 2) (As := [.int x1, .int (4 : Int32)]) yf_X9_isBelow (by decide +kernel) (ok_X9_isBelow x1 (4 : Int32) M _  hq1) tw_473 tw_472 rfl rfl (Nat.le_of_ble_eq_true rfl) dX9_changes_2 ?_
  refine V_if_eq (Y := m_X9_changes) (pc := 5) (tgt := 16) dX9_changes_5 (by decide +kernel) hf (fun hf => ?_) (fun hf => ?_)
  · refine V_ldc (Y := m_X9_changes) (pc := 16) (x := (-1000000001 : Int32)) dX9_changes_16 tw_481 ?_
    obtain rfl := Option.some.inj hf
    exact V_iret (Y := m_X9_changes) rfl dX9_changes_18
  · refine V_iload_n (Y := m_X9_changes) (pc := 8) 2 dX9_changes_8 rfl ?_
    refine V_iconst (Y := m_X9_changes) (pc := 9) (x := (4 : Int32)) dX9_changes_9 (by decide +kernel) ?_
    obtain ⟨q2, hq2, hf⟩ := g_bind hf
    refine V_cSi (Y := m_X9_changes) (pc := 10) (As := [.int x2, .int (4 : Int32)]) yf_X9_isBelow (by decide +kernel) (ok_X9_isBelow x2 (4 : Int32) q1.2 _  hq2) tw_473 tw_472 rfl rfl (Nat.le_of_ble_eq_true rfl) dX9_changes_10 ?_
    refine V_if_ne (Y := m_X9_changes) (pc := 13) (tgt := 19) dX9_changes_13 (by decide +kernel) hf (fun hf => ?_) (fun hf => ?_)
    · refine V_aload_n (Y := m_X9_changes) (pc := 19) 0 dX9_changes_19 rfl ?_
      refine V_grL (Y := m_X9_changes) (pc := 20) (x := 14) 6 kX9 sC_0 (by decide +kernel) rfl rfl tw_435 dX9_changes_20 ?_
      refine V_iload_n (Y := m_X9_changes) (pc := 23) 1 dX9_changes_23 rfl ?_
      obtain ⟨hi3, hf⟩ := g_if hf
      refine V_aald (Y := m_X9_changes) (pc := 24) 3 rfl sC_14 hi3 dX9_changes_24 ?_
      refine V_astore_n (Y := m_X9_changes) (pc := 25) [(3, .ref (b + (rfC 14 (ix x1)))), (0, .ref (b + 0)), (1, .int x1), (2, .int x2)] dX9_changes_25 (by decide +kernel) rfl ?_
      refine V_aload_n (Y := m_X9_changes) (pc := 26) 1 dX9_changes_26 rfl ?_
      refine V_grL (Y := m_X9_changes) (pc := 27) (x := 14) 6 kX9 sC_0 (by decide +kernel) rfl rfl tw_435 dX9_changes_27 ?_
      refine V_iload_n (Y := m_X9_changes) (pc := 30) 3 dX9_changes_30 rfl ?_
      obtain ⟨hi4, hf⟩ := g_if hf
      refine V_aald (Y := m_X9_changes) (pc := 31) 3 rfl sC_14 hi4 dX9_changes_31 ?_
      refine V_astore (Y := m_X9_changes) (pc := 32) [(4, .ref (b + (rfC 14 (ix x2)))), (3, .ref (b + (rfC 14 (ix x1)))), (0, .ref (b + 0)), (1, .int x1), (2, .int x2)] dX9_changes_32 (by decide +kernel) rfl ?_
      refine V_aload_n (Y := m_X9_changes) (pc := 34) 1 dX9_changes_34 rfl ?_
      obtain ⟨q5, hq5, hf⟩ := g_bind hf
      refine V_cVi (Y := m_X9_changes) (pc := 35) (As := []) yf_X6_isMissing kX6 (wtC.2 _ _ _ sC_14 _ (ixb_lt hi3)) (by decide +kernel) (ok_X6_isMissing (rfC 14 (ix x1)) q2.2 _ (wtC.2 _ _ _ sC_14 _ (ixb_lt hi3)) hq5) tw_884 tw_885 tw_883 rfl rfl (Nat.le_of_ble_eq_true rfl) dX9_changes_35 ?_
      refine V_if_ne (Y := m_X9_changes) (pc := 38) (tgt := 49) dX9_changes_38 (by decide +kernel) hf (fun hf => ?_) (fun hf => ?_)
      · exact V_sub [] rfl (ok_X9_changes_b49   q5.2 z  hf)
      · refine V_aload (Y := m_X9_changes) (pc := 41) 0 dX9_changes_41 rfl ?_
        obtain ⟨q6, hq6, hf⟩ := g_bind hf
        refine V_cVi (Y := m_X9_changes) (pc := 43) (As := []) yf_X6_isMissing kX6 (wtC.2 _ _ _ sC_14 _ (ixb_lt hi4)) (by decide +kernel) (ok_X6_isMissing (rfC 14 (ix x2)) q5.2 _ (wtC.2 _ _ _ sC_14 _ (ixb_lt hi4)) hq6) tw_884 tw_885 tw_883 rfl rfl (Nat.le_of_ble_eq_true rfl) dX9_changes_43 ?_
        refine V_if_eq (Y := m_X9_changes) (pc := 46) (tgt := 53) dX9_changes_46 (by decide +kernel) hf (fun hf => ?_) (fun hf => ?_)
        · refine V_aload_n (Y := m_X9_changes) (pc := 53) 1 dX9_changes_53 rfl ?_
          refine V_gi (Y := m_X9_changes) (pc := 54) 0 kX6 (wtC.2 _ _ _ sC_14 _ (ixb_lt hi3)) (by decide +kernel) rfl tw_393 dX9_changes_54 ?_
          refine V_aload (Y := m_X9_changes) (pc := 57) 0 dX9_changes_57 rfl ?_
          refine V_gi (Y := m_X9_changes) (pc := 59) 0 kX6 (wtC.2 _ _ _ sC_14 _ (ixb_lt hi4)) (by decide +kernel) rfl tw_393 dX9_changes_59 ?_
          refine V_icmp_eq (Y := m_X9_changes) (pc := 62) (tgt := 70) dX9_changes_62 (by decide +kernel) hf (fun hf => ?_) (fun hf => ?_)
          · refine V_aload_n (Y := m_X9_changes) (pc := 70) 2 dX9_changes_70 rfl ?_
            refine V_aload_n (Y := m_X9_changes) (pc := 71) 1 dX9_changes_71 rfl ?_
            refine V_aload (Y := m_X9_changes) (pc := 72) 0 dX9_changes_72 rfl ?_
            obtain ⟨q7, hq7, hf⟩ := g_bind hf
            refine V_cVi (Y := m_X9_changes) (pc := 74) (As := [.ref (b + (rfC 14 (ix x1))), .ref (b + (rfC 14 (ix x2)))]) yf_X9_changesBetween kX9 sC_0 (by decide +kernel) (ok_X9_changesBetween (rfC 14 (ix x1)) (rfC 14 (ix x2)) q6.2 _ (wtC.2 _ _ _ sC_14 _ (ixb_lt hi3)) (wtC.2 _ _ _ sC_14 _ (ixb_lt hi4)) hq7) tw_904 tw_15 tw_902 rfl rfl (Nat.le_of_ble_eq_true rfl) dX9_changes_74 ?_
            obtain rfl := Option.some.inj hf
            exact V_iret (Y := m_X9_changes) rfl dX9_changes_77
          · refine V_ldc (Y := m_X9_changes) (pc := 65) (x := (-1000000012 : Int32)) dX9_changes_65 tw_557 ?_
            refine V_goto (Y := m_X9_changes) (pc := 67) (tgt := 77) dX9_changes_67 (by decide +kernel) ?_
            obtain rfl := Option.some.inj hf
            exact V_iret (Y := m_X9_changes) rfl dX9_changes_77
        · exact V_sub [] rfl (ok_X9_changes_b49   q6.2 z  hf)
    · refine V_ldc (Y := m_X9_changes) (pc := 16) (x := (-1000000001 : Int32)) dX9_changes_16 tw_481 ?_
      obtain rfl := Option.some.inj hf
      exact V_iret (Y := m_X9_changes) rfl dX9_changes_18
def f_X9_changes (x1 : Int32) (x2 : Int32) (M : Mem) : Option (Int32 × Mem) := f_X9_changes_b0 x1 x2 M
set_option maxRecDepth 20000 in
set_option maxHeartbeats 4000000 in
theorem ok_X9_changes {l : Launch} {g : Gam} {b : Nat} : ∀ (x1 : Int32) (x2 : Int32) (M : Mem) (z : Int32 × Mem), f_X9_changes x1 x2 M = some z → Cn l g (wC b) m_X9_changes [.ref (b + 0), .int x1, .int x2] M (some (.int z.1)) z.2 := fun x1 x2 M z  hf => Cn_of (by decide +kernel) (Nat.le_of_ble_eq_true rfl) (V_sub [0, 1, 2] rfl (ok_X9_changes_b0 x1 x2 M z  hf))

abbrev m_X9_from : Mth := (yX9_from, cX9_from, 7, some .int, 2)
theorem yf_X9_from : YF m_X9_from 1 := ⟨tw_909, tw_65, by decide +kernel, by decide +kernel⟩
def f_X9_from_b101 (k38 : Int32 → Nat → Int32 → Int32 → Int32 → Mem → Option (Int32 × Mem)) (x1 : Int32) (a2 : Nat) (x3 : Int32) (x4 : Int32) (x5 : Int32) (M : Mem) : Option (Int32 × Mem) :=
  k38 x1 a2 x3 x4 (x5 + (1 : Int32)) M
set_option maxRecDepth 20000 in
set_option maxHeartbeats 4000000 in
theorem ok_X9_from_b101 {l : Launch} {g : Gam} {b : Nat} (k38 : Int32 → Nat → Int32 → Int32 → Int32 → Mem → Option (Int32 × Mem)) (hk38 : ∀ (x1 : Int32) (a2 : Nat) (x3 : Int32) (x4 : Int32) (x5 : Int32) (M : Mem) (z : Int32 × Mem), shC[a2]? = some (1, 6) → k38 x1 a2 x3 x4 x5 M = some z → V l g (wC b) m_X9_from 38 [(0, .ref (b + 0)), (1, .int x1), (2, .ref (b + a2)), (3, .int x3), (4, .int x4), (5, .int x5)] [] M (some (.int z.1)) z.2) (x1 : Int32) (a2 : Nat) (x3 : Int32) (x4 : Int32) (x5 : Int32) (M : Mem) (z : Int32 × Mem) (ha2 : shC[a2]? = some (1, 6)) (hf : f_X9_from_b101 k38 x1 a2 x3 x4 x5 M = some z) : V l g (wC b) m_X9_from 101 [(0, .ref (b + 0)), (1, .int x1), (2, .ref (b + a2)), (3, .int x3), (4, .int x4), (5, .int x5)] [] M (some (.int z.1)) z.2 := by
  unfold f_X9_from_b101 at hf
  refine V_iinc (Y := m_X9_from) (pc := 101) (y := (x5 + (1 : Int32))) 5 [(5, .int (x5 + (1 : Int32))), (0, .ref (b + 0)), (1, .int x1), (2, .ref (b + a2)), (3, .int x3), (4, .int x4)] dX9_from_101 rfl rfl (by decide +kernel) rfl ?_
  refine V_goto (Y := m_X9_from) (pc := 104) (tgt := 38) dX9_from_104 (by decide +kernel) ?_
  exact V_sub [1, 2, 3, 4, 5, 0] rfl (hk38 x1 a2 x3 x4 (x5 + (1 : Int32)) M z ha2 hf)
def f_X9_from_b94 (k38 : Int32 → Nat → Int32 → Int32 → Int32 → Mem → Option (Int32 × Mem)) (x1 : Int32) (a2 : Nat) (x5 : Int32) (x6 : Int32) (M : Mem) : Option (Int32 × Mem) :=
  f_X9_from_b101 k38 x1 a2 x5 x6 x5 M
set_option maxRecDepth 20000 in
set_option maxHeartbeats 4000000 in
theorem ok_X9_from_b94 {l : Launch} {g : Gam} {b : Nat} (k38 : Int32 → Nat → Int32 → Int32 → Int32 → Mem → Option (Int32 × Mem)) (hk38 : ∀ (x1 : Int32) (a2 : Nat) (x3 : Int32) (x4 : Int32) (x5 : Int32) (M : Mem) (z : Int32 × Mem), shC[a2]? = some (1, 6) → k38 x1 a2 x3 x4 x5 M = some z → V l g (wC b) m_X9_from 38 [(0, .ref (b + 0)), (1, .int x1), (2, .ref (b + a2)), (3, .int x3), (4, .int x4), (5, .int x5)] [] M (some (.int z.1)) z.2) (x1 : Int32) (a2 : Nat) (x5 : Int32) (x6 : Int32) (M : Mem) (z : Int32 × Mem) (ha2 : shC[a2]? = some (1, 6)) (hf : f_X9_from_b94 k38 x1 a2 x5 x6 M = some z) : V l g (wC b) m_X9_from 94 [(0, .ref (b + 0)), (1, .int x1), (2, .ref (b + a2)), (5, .int x5), (6, .int x6)] [] M (some (.int z.1)) z.2 := by
  unfold f_X9_from_b94 at hf
  refine V_iload (Y := m_X9_from) (pc := 94) 3 dX9_from_94 rfl ?_
  refine V_istore_n (Y := m_X9_from) (pc := 96) [(3, .int x5), (0, .ref (b + 0)), (1, .int x1), (2, .ref (b + a2)), (5, .int x5), (6, .int x6)] dX9_from_96 (by decide +kernel) rfl ?_
  refine V_iload (Y := m_X9_from) (pc := 97) 5 dX9_from_97 rfl ?_
  refine V_istore (Y := m_X9_from) (pc := 99) [(4, .int x6), (3, .int x5), (0, .ref (b + 0)), (1, .int x1), (2, .ref (b + a2)), (5, .int x5), (6, .int x6)] dX9_from_99 (by decide +kernel) rfl ?_
  exact V_sub [2, 3, 4, 1, 0, 5] rfl (ok_X9_from_b101 k38 hk38 x1 a2 x5 x6 x5 M z ha2 hf)
def f_X9_from_b38  : Nat → Int32 → Nat → Int32 → Int32 → Int32 → Mem → Option (Int32 × Mem)
  | 0, _, _, _, _, _, _ => none
  | n + 1, x1, a2, x3, x4, x5, M =>
    if (4 : Int32) ≤ x5 then
      some (x3, M)
    else
      if x5 = x1 then
        f_X9_from_b101 (f_X9_from_b38  n) x1 a2 x3 x4 x5 M
      else
        if ixb x5 4 = true then
        if (M (rfC 14 (ix x5)) 0) = (M a2 0) then
          if ixb x5 4 = true then
          (f_X9_changesBetween (rfC 14 (ix x5)) a2 M).bind fun q3 =>
          if x3 = (-1000000005 : Int32) then
            f_X9_from_b94 (f_X9_from_b38  n) x1 a2 x5 q3.1 q3.2
          else
            if x4 ≤ q3.1 then
              f_X9_from_b101 (f_X9_from_b38  n) x1 a2 x3 x4 x5 q3.2
            else
              f_X9_from_b94 (f_X9_from_b38  n) x1 a2 x5 q3.1 q3.2
          else none
        else
          f_X9_from_b101 (f_X9_from_b38  n) x1 a2 x3 x4 x5 M
        else none
set_option maxRecDepth 20000 in
set_option maxHeartbeats 4000000 in
theorem ok_X9_from_b38 {l : Launch} {g : Gam} {b : Nat}   : ∀ (n : Nat) (x1 : Int32) (a2 : Nat) (x3 : Int32) (x4 : Int32) (x5 : Int32) (M : Mem) (z : Int32 × Mem), (ha2 : shC[a2]? = some (1, 6)) → f_X9_from_b38  n x1 a2 x3 x4 x5 M = some z → V l g (wC b) m_X9_from 38 [(0, .ref (b + 0)), (1, .int x1), (2, .ref (b + a2)), (3, .int x3), (4, .int x4), (5, .int x5)] [] M (some (.int z.1)) z.2 := by
  intro n
  induction n with
  | zero =>
    intro x1 a2 x3 x4 x5 M z ha2 hf
    cases hf
  | succ n ih =>
    intro x1 a2 x3 x4 x5 M z ha2 hf
    rw [f_X9_from_b38] at hf
    refine V_iload (Y := m_X9_from) (pc := 38) 5 dX9_from_38 rfl ?_
    refine V_iconst (Y := m_X9_from) (pc := 40) (x := (4 : Int32)) dX9_from_40 (by decide +kernel) ?_
    refine V_icmp_ge (Y := m_X9_from) (pc := 41) (tgt := 107) dX9_from_41 (by decide +kernel) hf (fun hf => ?_) (fun hf => ?_)
    · refine V_iload_n (Y := m_X9_from) (pc := 107) 3 dX9_from_107 rfl ?_
      obtain rfl := Option.some.inj hf
      exact V_iret (Y := m_X9_from) rfl dX9_from_108
    · refine V_iload (Y := m_X9_from) (pc := 44) 5 dX9_from_44 rfl ?_
      refine V_iload_n (Y := m_X9_from) (pc := 46) 1 dX9_from_46 rfl ?_
      refine V_icmp_eq (Y := m_X9_from) (pc := 47) (tgt := 101) dX9_from_47 (by decide +kernel) hf (fun hf => ?_) (fun hf => ?_)
      · exact V_sub [0, 1, 2, 3, 4, 5] rfl (ok_X9_from_b101 (f_X9_from_b38  n) ih x1 a2 x3 x4 x5 M z ha2 hf)
      · refine V_aload_n (Y := m_X9_from) (pc := 50) 0 dX9_from_50 rfl ?_
        refine V_grL (Y := m_X9_from) (pc := 51) (x := 14) 6 kX9 sC_0 (by decide +kernel) rfl rfl tw_435 dX9_from_51 ?_
        refine V_iload (Y := m_X9_from) (pc := 54) 5 dX9_from_54 rfl ?_
        obtain ⟨hi1, hf⟩ := g_if hf
        refine V_aald (Y := m_X9_from) (pc := 56) 3 rfl sC_14 hi1 dX9_from_56 ?_
        refine V_gi (Y := m_X9_from) (pc := 57) 0 kX6 (wtC.2 _ _ _ sC_14 _ (ixb_lt hi1)) (by decide +kernel) rfl tw_393 dX9_from_57 ?_
        refine V_aload_n (Y := m_X9_from) (pc := 60) 2 dX9_from_60 rfl ?_
        refine V_gi (Y := m_X9_from) (pc := 61) 0 kX6 ha2 (by decide +kernel) rfl tw_393 dX9_from_61 ?_
        refine V_icmp_ne (Y := m_X9_from) (pc := 64) (tgt := 101) dX9_from_64 (by decide +kernel) hf (fun hf => ?_) (fun hf => ?_)
        · exact V_sub [0, 1, 2, 3, 4, 5] rfl (ok_X9_from_b101 (f_X9_from_b38  n) ih x1 a2 x3 x4 x5 M z ha2 hf)
        · refine V_aload_n (Y := m_X9_from) (pc := 67) 0 dX9_from_67 rfl ?_
          refine V_aload_n (Y := m_X9_from) (pc := 68) 0 dX9_from_68 rfl ?_
          refine V_grL (Y := m_X9_from) (pc := 69) (x := 14) 6 kX9 sC_0 (by decide +kernel) rfl rfl tw_435 dX9_from_69 ?_
          refine V_iload (Y := m_X9_from) (pc := 72) 5 dX9_from_72 rfl ?_
          obtain ⟨hi2, hf⟩ := g_if hf
          refine V_aald (Y := m_X9_from) (pc := 74) 3 rfl sC_14 hi2 dX9_from_74 ?_
          refine V_aload_n (Y := m_X9_from) (pc := 75) 2 dX9_from_75 rfl ?_
          obtain ⟨q3, hq3, hf⟩ := g_bind hf
          refine V_cVi (Y := m_X9_from) (pc := 76) (As := [.ref (b + (rfC 14 (ix x5))), .ref (b + a2)]) yf_X9_changesBetween kX9 sC_0 (by decide +kernel) (ok_X9_changesBetween (rfC 14 (ix x5)) a2 M _ (wtC.2 _ _ _ sC_14 _ (ixb_lt hi2)) ha2 hq3) tw_904 tw_15 tw_902 rfl rfl (Nat.le_of_ble_eq_true rfl) dX9_from_76 ?_
          refine V_istore (Y := m_X9_from) (pc := 79) [(6, .int q3.1), (0, .ref (b + 0)), (1, .int x1), (2, .ref (b + a2)), (3, .int x3), (4, .int x4), (5, .int x5)] dX9_from_79 (by decide +kernel) rfl ?_
          refine V_iload_n (Y := m_X9_from) (pc := 81) 4 dX9_from_81 rfl ?_
          refine V_ldc (Y := m_X9_from) (pc := 82) (x := (-1000000005 : Int32)) dX9_from_82 tw_562 ?_
          refine V_icmp_eq (Y := m_X9_from) (pc := 84) (tgt := 94) dX9_from_84 (by decide +kernel) hf (fun hf => ?_) (fun hf => ?_)
          · exact V_sub [1, 2, 3, 6, 0] rfl (ok_X9_from_b94 (f_X9_from_b38  n) ih x1 a2 x5 q3.1 q3.2 z ha2 hf)
          · refine V_iload (Y := m_X9_from) (pc := 87) 0 dX9_from_87 rfl ?_
            refine V_iload (Y := m_X9_from) (pc := 89) 5 dX9_from_89 rfl ?_
            refine V_icmp_ge (Y := m_X9_from) (pc := 91) (tgt := 101) dX9_from_91 (by decide +kernel) hf (fun hf => ?_) (fun hf => ?_)
            · exact V_sub [1, 2, 3, 4, 5, 6] rfl (ok_X9_from_b101 (f_X9_from_b38  n) ih x1 a2 x3 x4 x5 q3.2 z ha2 hf)
            · exact V_sub [1, 2, 3, 6, 0] rfl (ok_X9_from_b94 (f_X9_from_b38  n) ih x1 a2 x5 q3.1 q3.2 z ha2 hf)
def f_X9_from_b0  (x1 : Int32) (M : Mem) : Option (Int32 × Mem) :=
  (f_X9_isBelow x1 (4 : Int32) M).bind fun q1 =>
  if q1.1 = 0 then
    some ((-1000000001 : Int32), q1.2)
  else
    if ixb x1 4 = true then
    (f_X6_isMissing (rfC 14 (ix x1)) q1.2).bind fun q3 =>
    if q3.1 = 0 then
      f_X9_from_b38  FU x1 (rfC 14 (ix x1)) (-1000000005 : Int32) (0 : Int32) (0 : Int32) q3.2
    else
      some ((-1000000011 : Int32), q3.2)
    else none
set_option maxRecDepth 20000 in
set_option maxHeartbeats 4000000 in
theorem ok_X9_from_b0 {l : Launch} {g : Gam} {b : Nat}   (x1 : Int32) (M : Mem) (z : Int32 × Mem)  (hf : f_X9_from_b0 x1 M = some z) : V l g (wC b) m_X9_from 0 [(0, .ref (b + 0)), (1, .int x1)] [] M (some (.int z.1)) z.2 := by
  unfold f_X9_from_b0 at hf
  refine V_iload_n (Y := m_X9_from) (pc := 0) 1 dX9_from_0 rfl ?_
  refine V_iconst (Y := m_X9_from) (pc := 1) (x := (4 : Int32)) dX9_from_1 (by decide +kernel) ?_
  obtain ⟨q1, hq1, hf⟩ := g_bind hf
  refine V_cSi (Y := m_X9_from) (pc := 2) (As := [.int x1, .int (4 : Int32)]) yf_X9_isBelow (by decide +kernel) (ok_X9_isBelow x1 (4 : Int32) M _  hq1) tw_473 tw_472 rfl rfl (Nat.le_of_ble_eq_true rfl) dX9_from_2 ?_
  refine V_if_ne (Y := m_X9_from) (pc := 5) (tgt := 11) dX9_from_5 (by decide +kernel) hf (fun hf => ?_) (fun hf => ?_)
  · refine V_aload_n (Y := m_X9_from) (pc := 11) 0 dX9_from_11 rfl ?_
    refine V_grL (Y := m_X9_from) (pc := 12) (x := 14) 6 kX9 sC_0 (by decide +kernel) rfl rfl tw_435 dX9_from_12 ?_
    refine V_iload_n (Y := m_X9_from) (pc := 15) 1 dX9_from_15 rfl ?_
    obtain ⟨hi2, hf⟩ := g_if hf
    refine V_aald (Y := m_X9_from) (pc := 16) 3 rfl sC_14 hi2 dX9_from_16 ?_
    refine V_astore_n (Y := m_X9_from) (pc := 17) [(2, .ref (b + (rfC 14 (ix x1)))), (0, .ref (b + 0)), (1, .int x1)] dX9_from_17 (by decide +kernel) rfl ?_
    refine V_aload_n (Y := m_X9_from) (pc := 18) 0 dX9_from_18 rfl ?_
    obtain ⟨q3, hq3, hf⟩ := g_bind hf
    refine V_cVi (Y := m_X9_from) (pc := 19) (As := []) yf_X6_isMissing kX6 (wtC.2 _ _ _ sC_14 _ (ixb_lt hi2)) (by decide +kernel) (ok_X6_isMissing (rfC 14 (ix x1)) q1.2 _ (wtC.2 _ _ _ sC_14 _ (ixb_lt hi2)) hq3) tw_884 tw_885 tw_883 rfl rfl (Nat.le_of_ble_eq_true rfl) dX9_from_19 ?_
    refine V_if_eq (Y := m_X9_from) (pc := 22) (tgt := 29) dX9_from_22 (by decide +kernel) hf (fun hf => ?_) (fun hf => ?_)
    · refine V_ldc (Y := m_X9_from) (pc := 29) (x := (-1000000005 : Int32)) dX9_from_29 tw_562 ?_
      refine V_istore_n (Y := m_X9_from) (pc := 31) [(3, .int (-1000000005 : Int32)), (2, .ref (b + (rfC 14 (ix x1)))), (0, .ref (b + 0)), (1, .int x1)] dX9_from_31 (by decide +kernel) rfl ?_
      refine V_iconst (Y := m_X9_from) (pc := 32) (x := (0 : Int32)) dX9_from_32 (by decide +kernel) ?_
      refine V_istore (Y := m_X9_from) (pc := 33) [(4, .int (0 : Int32)), (3, .int (-1000000005 : Int32)), (2, .ref (b + (rfC 14 (ix x1)))), (0, .ref (b + 0)), (1, .int x1)] dX9_from_33 (by decide +kernel) rfl ?_
      refine V_iconst (Y := m_X9_from) (pc := 35) (x := (0 : Int32)) dX9_from_35 (by decide +kernel) ?_
      refine V_istore (Y := m_X9_from) (pc := 36) [(5, .int (0 : Int32)), (4, .int (0 : Int32)), (3, .int (-1000000005 : Int32)), (2, .ref (b + (rfC 14 (ix x1)))), (0, .ref (b + 0)), (1, .int x1)] dX9_from_36 (by decide +kernel) rfl ?_
      exact V_sub [4, 5, 3, 2, 1, 0] rfl (ok_X9_from_b38  FU x1 (rfC 14 (ix x1)) (-1000000005 : Int32) (0 : Int32) (0 : Int32) q3.2 z (wtC.2 _ _ _ sC_14 _ (ixb_lt hi2)) hf)
    · refine V_ldcw (Y := m_X9_from) (pc := 25) (x := (-1000000011 : Int32)) dX9_from_25 tw_887 ?_
      obtain rfl := Option.some.inj hf
      exact V_iret (Y := m_X9_from) rfl dX9_from_28
  · refine V_ldc (Y := m_X9_from) (pc := 8) (x := (-1000000001 : Int32)) dX9_from_8 tw_481 ?_
    obtain rfl := Option.some.inj hf
    exact V_iret (Y := m_X9_from) rfl dX9_from_10
def f_X9_from (x1 : Int32) (M : Mem) : Option (Int32 × Mem) := f_X9_from_b0 x1 M
set_option maxRecDepth 20000 in
set_option maxHeartbeats 4000000 in
theorem ok_X9_from {l : Launch} {g : Gam} {b : Nat} : ∀ (x1 : Int32) (M : Mem) (z : Int32 × Mem), f_X9_from x1 M = some z → Cn l g (wC b) m_X9_from [.ref (b + 0), .int x1] M (some (.int z.1)) z.2 := fun x1 M z  hf => Cn_of (by decide +kernel) (Nat.le_of_ble_eq_true rfl) (V_sub [0, 1] rfl (ok_X9_from_b0 x1 M z  hf))

abbrev m_X9_court : Mth := (yX9_court, cX9_court, 7, some .int, 7)
theorem yf_X9_court : YF m_X9_court 4 := ⟨tw_913, tw_65, by decide +kernel, by decide +kernel⟩
def f_X9_court_b121   (M : Mem) : Option (Int32 × Mem) :=
  some ((0 : Int32), M)
set_option maxRecDepth 20000 in
set_option maxHeartbeats 4000000 in
theorem ok_X9_court_b121 {l : Launch} {g : Gam} {b : Nat}    (M : Mem) (z : Int32 × Mem)  (hf : f_X9_court_b121  M = some z) : V l g (wC b) m_X9_court 121 [] [] M (some (.int z.1)) z.2 := by
  unfold f_X9_court_b121 at hf
  refine V_iconst (Y := m_X9_court) (pc := 121) (x := (0 : Int32)) dX9_court_121 (by decide +kernel) ?_
  refine V_goto (Y := m_X9_court) (pc := 122) (tgt := 126) dX9_court_122 (by decide +kernel) ?_
  obtain rfl := Option.some.inj hf
  exact V_iret (Y := m_X9_court) rfl dX9_court_126
def f_X9_court_b108  (x3 : Int32) (x4 : Int32) (x5 : Int32) (x6 : Int32) (M : Mem) : Option (Int32 × Mem) :=
  if x6 < x3 then
    f_X9_court_b121   M
  else
    if x5 ≤ x4 then
      some ((1 : Int32), M)
    else
      f_X9_court_b121   M
set_option maxRecDepth 20000 in
set_option maxHeartbeats 4000000 in
theorem ok_X9_court_b108 {l : Launch} {g : Gam} {b : Nat}   (x3 : Int32) (x4 : Int32) (x5 : Int32) (x6 : Int32) (M : Mem) (z : Int32 × Mem)  (hf : f_X9_court_b108 x3 x4 x5 x6 M = some z) : V l g (wC b) m_X9_court 108 [(3, .int x3), (4, .int x4), (5, .int x5), (6, .int x6)] [] M (some (.int z.1)) z.2 := by
  unfold f_X9_court_b108 at hf
  refine V_iload (Y := m_X9_court) (pc := 108) 3 dX9_court_108 rfl ?_
  refine V_iload_n (Y := m_X9_court) (pc := 110) 0 dX9_court_110 rfl ?_
  refine V_icmp_lt (Y := m_X9_court) (pc := 111) (tgt := 121) dX9_court_111 (by decide +kernel) hf (fun hf => ?_) (fun hf => ?_)
  · exact V_sub [] rfl (ok_X9_court_b121   M z  hf)
  · refine V_iload (Y := m_X9_court) (pc := 114) 1 dX9_court_114 rfl ?_
    refine V_iload (Y := m_X9_court) (pc := 116) 2 dX9_court_116 rfl ?_
    refine V_icmp_ge (Y := m_X9_court) (pc := 118) (tgt := 125) dX9_court_118 (by decide +kernel) hf (fun hf => ?_) (fun hf => ?_)
    · refine V_iconst (Y := m_X9_court) (pc := 125) (x := (1 : Int32)) dX9_court_125 (by decide +kernel) ?_
      obtain rfl := Option.some.inj hf
      exact V_iret (Y := m_X9_court) rfl dX9_court_126
    · exact V_sub [] rfl (ok_X9_court_b121   M z  hf)
def f_X9_court_b0  (x1 : Int32) (x2 : Int32) (x3 : Int32) (x4 : Int32) (M : Mem) : Option (Int32 × Mem) :=
  (f_X9_isBelow x1 (9 : Int32) M).bind fun q1 =>
  if q1.1 = 0 then
    some ((-1000000001 : Int32), q1.2)
  else
    (f_X9_isWithin x2 (-99 : Int32) (99 : Int32) q1.2).bind fun q2 =>
    if q2.1 = 0 then
      some ((-1000000001 : Int32), q2.2)
    else
      (f_X9_isWithin x3 (0 : Int32) (1999 : Int32) q2.2).bind fun q3 =>
      if q3.1 = 0 then
        some ((-1000000001 : Int32), q3.2)
      else
        (f_X9_isWithin x4 x3 (1999 : Int32) q3.2).bind fun q4 =>
        if q4.1 = 0 then
          some ((-1000000001 : Int32), q4.2)
        else
          (f_X1_look 48 x1 q4.2).bind fun q5 =>
          (f_X1_hold  q5.2).bind fun q6 =>
          if q6.1 = 0 then
            some ((-1000000002 : Int32), q6.2)
          else
            if ((q6.2 4 1) + x2) < x3 then
              f_X9_court_b108  x3 x4 ((q6.2 4 1) + x2) ((q6.2 4 2) + x2) q6.2
            else
              if x4 < ((q6.2 4 2) + x2) then
                f_X9_court_b108  x3 x4 ((q6.2 4 1) + x2) ((q6.2 4 2) + x2) q6.2
              else
                some ((2 : Int32), q6.2)
set_option maxRecDepth 20000 in
set_option maxHeartbeats 4000000 in
theorem ok_X9_court_b0 {l : Launch} {g : Gam} {b : Nat}   (x1 : Int32) (x2 : Int32) (x3 : Int32) (x4 : Int32) (M : Mem) (z : Int32 × Mem)  (hf : f_X9_court_b0 x1 x2 x3 x4 M = some z) : V l g (wC b) m_X9_court 0 [(0, .ref (b + 0)), (1, .int x1), (2, .int x2), (3, .int x3), (4, .int x4)] [] M (some (.int z.1)) z.2 := by
  unfold f_X9_court_b0 at hf
  refine V_iload_n (Y := m_X9_court) (pc := 0) 1 dX9_court_0 rfl ?_
  refine V_bipush (Y := m_X9_court) (pc := 1) (x := (9 : Int32)) dX9_court_1 (by decide +kernel) ?_
  obtain ⟨q1, hq1, hf⟩ := g_bind hf
  refine V_cSi (Y := m_X9_court) (pc := 3) (As := [.int x1, .int (9 : Int32)]) yf_X9_isBelow (by decide +kernel) (ok_X9_isBelow x1 (9 : Int32) M _  hq1) tw_473 tw_472 rfl rfl (Nat.le_of_ble_eq_true rfl) dX9_court_3 ?_
  refine V_if_eq (Y := m_X9_court) (pc := 6) (tgt := 43) dX9_court_6 (by decide +kernel) hf (fun hf => ?_) (fun hf => ?_)
  · refine V_ldc (Y := m_X9_court) (pc := 43) (x := (-1000000001 : Int32)) dX9_court_43 tw_481 ?_
    obtain rfl := Option.some.inj hf
    exact V_iret (Y := m_X9_court) rfl dX9_court_45
  · refine V_iload_n (Y := m_X9_court) (pc := 9) 2 dX9_court_9 rfl ?_
    refine V_bipush (Y := m_X9_court) (pc := 10) (x := (-99 : Int32)) dX9_court_10 (by decide +kernel) ?_
    refine V_bipush (Y := m_X9_court) (pc := 12) (x := (99 : Int32)) dX9_court_12 (by decide +kernel) ?_
    obtain ⟨q2, hq2, hf⟩ := g_bind hf
    refine V_cSi (Y := m_X9_court) (pc := 14) (As := [.int x2, .int (-99 : Int32), .int (99 : Int32)]) yf_X9_isWithin (by decide +kernel) (ok_X9_isWithin x2 (-99 : Int32) (99 : Int32) q1.2 _  hq2) tw_479 tw_478 rfl rfl (Nat.le_of_ble_eq_true rfl) dX9_court_14 ?_
    refine V_if_eq (Y := m_X9_court) (pc := 17) (tgt := 43) dX9_court_17 (by decide +kernel) hf (fun hf => ?_) (fun hf => ?_)
    · refine V_ldc (Y := m_X9_court) (pc := 43) (x := (-1000000001 : Int32)) dX9_court_43 tw_481 ?_
      obtain rfl := Option.some.inj hf
      exact V_iret (Y := m_X9_court) rfl dX9_court_45
    · refine V_iload_n (Y := m_X9_court) (pc := 20) 3 dX9_court_20 rfl ?_
      refine V_iconst (Y := m_X9_court) (pc := 21) (x := (0 : Int32)) dX9_court_21 (by decide +kernel) ?_
      refine V_sipush (Y := m_X9_court) (pc := 22) (x := (1999 : Int32)) dX9_court_22 (by decide +kernel) ?_
      obtain ⟨q3, hq3, hf⟩ := g_bind hf
      refine V_cSi (Y := m_X9_court) (pc := 25) (As := [.int x3, .int (0 : Int32), .int (1999 : Int32)]) yf_X9_isWithin (by decide +kernel) (ok_X9_isWithin x3 (0 : Int32) (1999 : Int32) q2.2 _  hq3) tw_479 tw_478 rfl rfl (Nat.le_of_ble_eq_true rfl) dX9_court_25 ?_
      refine V_if_eq (Y := m_X9_court) (pc := 28) (tgt := 43) dX9_court_28 (by decide +kernel) hf (fun hf => ?_) (fun hf => ?_)
      · refine V_ldc (Y := m_X9_court) (pc := 43) (x := (-1000000001 : Int32)) dX9_court_43 tw_481 ?_
        obtain rfl := Option.some.inj hf
        exact V_iret (Y := m_X9_court) rfl dX9_court_45
      · refine V_iload (Y := m_X9_court) (pc := 31) 4 dX9_court_31 rfl ?_
        refine V_iload_n (Y := m_X9_court) (pc := 33) 3 dX9_court_33 rfl ?_
        refine V_sipush (Y := m_X9_court) (pc := 34) (x := (1999 : Int32)) dX9_court_34 (by decide +kernel) ?_
        obtain ⟨q4, hq4, hf⟩ := g_bind hf
        refine V_cSi (Y := m_X9_court) (pc := 37) (As := [.int x4, .int x3, .int (1999 : Int32)]) yf_X9_isWithin (by decide +kernel) (ok_X9_isWithin x4 x3 (1999 : Int32) q3.2 _  hq4) tw_479 tw_478 rfl rfl (Nat.le_of_ble_eq_true rfl) dX9_court_37 ?_
        refine V_if_ne (Y := m_X9_court) (pc := 40) (tgt := 46) dX9_court_40 (by decide +kernel) hf (fun hf => ?_) (fun hf => ?_)
        · refine V_aload_n (Y := m_X9_court) (pc := 46) 0 dX9_court_46 rfl ?_
          refine V_grL (Y := m_X9_court) (pc := 47) (x := 4) 3 kX9 sC_0 (by decide +kernel) rfl rfl tw_432 dX9_court_47 ?_
          refine V_aload_n (Y := m_X9_court) (pc := 50) 0 dX9_court_50 rfl ?_
          refine V_grL (Y := m_X9_court) (pc := 51) (x := 48) 1 kX9 sC_0 (by decide +kernel) rfl rfl tw_430 dX9_court_51 ?_
          refine V_iload_n (Y := m_X9_court) (pc := 54) 1 dX9_court_54 rfl ?_
          obtain ⟨q5, hq5, hf⟩ := g_bind hf
          refine V_cVv (Y := m_X9_court) (pc := 55) (As := [.ref (b + 48), .int x1]) yf_X1_look kX1 sC_4 (by decide +kernel) (ok_X1_look 48 x1 q4.2 _ sC_48 hq5) tw_718 tw_719 tw_717 rfl rfl (Nat.le_of_ble_eq_true rfl) dX9_court_55 ?_
          refine V_aload_n (Y := m_X9_court) (pc := 58) 0 dX9_court_58 rfl ?_
          refine V_grL (Y := m_X9_court) (pc := 59) (x := 4) 3 kX9 sC_0 (by decide +kernel) rfl rfl tw_432 dX9_court_59 ?_
          obtain ⟨q6, hq6, hf⟩ := g_bind hf
          refine V_cVi (Y := m_X9_court) (pc := 62) (As := []) yf_X1_hold kX1 sC_4 (by decide +kernel) (ok_X1_hold  q5.2 _  hq6) tw_743 tw_744 tw_742 rfl rfl (Nat.le_of_ble_eq_true rfl) dX9_court_62 ?_
          refine V_if_ne (Y := m_X9_court) (pc := 65) (tgt := 71) dX9_court_65 (by decide +kernel) hf (fun hf => ?_) (fun hf => ?_)
          · refine V_aload_n (Y := m_X9_court) (pc := 71) 0 dX9_court_71 rfl ?_
            refine V_grL (Y := m_X9_court) (pc := 72) (x := 4) 3 kX9 sC_0 (by decide +kernel) rfl rfl tw_432 dX9_court_72 ?_
            refine V_gi (Y := m_X9_court) (pc := 75) 1 kX1 sC_4 (by decide +kernel) rfl tw_154 dX9_court_75 ?_
            refine V_iload_n (Y := m_X9_court) (pc := 78) 2 dX9_court_78 rfl ?_
            refine V_iadd (Y := m_X9_court) (pc := 79) dX9_court_79 ?_
            refine V_istore (Y := m_X9_court) (pc := 80) [(5, .int ((q6.2 4 1) + x2)), (0, .ref (b + 0)), (1, .int x1), (2, .int x2), (3, .int x3), (4, .int x4)] dX9_court_80 (by decide +kernel) rfl ?_
            refine V_aload_n (Y := m_X9_court) (pc := 82) 1 dX9_court_82 rfl ?_
            refine V_grL (Y := m_X9_court) (pc := 83) (x := 4) 3 kX9 sC_0 (by decide +kernel) rfl rfl tw_432 dX9_court_83 ?_
            refine V_gi (Y := m_X9_court) (pc := 86) 2 kX1 sC_4 (by decide +kernel) rfl tw_156 dX9_court_86 ?_
            refine V_iload_n (Y := m_X9_court) (pc := 89) 3 dX9_court_89 rfl ?_
            refine V_iadd (Y := m_X9_court) (pc := 90) dX9_court_90 ?_
            refine V_istore (Y := m_X9_court) (pc := 91) [(6, .int ((q6.2 4 2) + x2)), (5, .int ((q6.2 4 1) + x2)), (0, .ref (b + 0)), (1, .int x1), (2, .int x2), (3, .int x3), (4, .int x4)] dX9_court_91 (by decide +kernel) rfl ?_
            refine V_iload_n (Y := m_X9_court) (pc := 93) 5 dX9_court_93 rfl ?_
            refine V_iload (Y := m_X9_court) (pc := 94) 1 dX9_court_94 rfl ?_
            refine V_icmp_gt (Y := m_X9_court) (pc := 96) (tgt := 108) dX9_court_96 (by decide +kernel) hf (fun hf => ?_) (fun hf => ?_)
            · exact V_sub [5, 6, 1, 0] rfl (ok_X9_court_b108  x3 x4 ((q6.2 4 1) + x2) ((q6.2 4 2) + x2) q6.2 z  hf)
            · refine V_iload (Y := m_X9_court) (pc := 99) 0 dX9_court_99 rfl ?_
              refine V_iload (Y := m_X9_court) (pc := 101) 6 dX9_court_101 rfl ?_
              refine V_icmp_gt (Y := m_X9_court) (pc := 103) (tgt := 108) dX9_court_103 (by decide +kernel) hf (fun hf => ?_) (fun hf => ?_)
              · exact V_sub [5, 6, 1, 0] rfl (ok_X9_court_b108  x3 x4 ((q6.2 4 1) + x2) ((q6.2 4 2) + x2) q6.2 z  hf)
              · refine V_iconst (Y := m_X9_court) (pc := 106) (x := (2 : Int32)) dX9_court_106 (by decide +kernel) ?_
                obtain rfl := Option.some.inj hf
                exact V_iret (Y := m_X9_court) rfl dX9_court_107
          · refine V_ldc (Y := m_X9_court) (pc := 68) (x := (-1000000002 : Int32)) dX9_court_68 tw_772 ?_
            obtain rfl := Option.some.inj hf
            exact V_iret (Y := m_X9_court) rfl dX9_court_70
        · refine V_ldc (Y := m_X9_court) (pc := 43) (x := (-1000000001 : Int32)) dX9_court_43 tw_481 ?_
          obtain rfl := Option.some.inj hf
          exact V_iret (Y := m_X9_court) rfl dX9_court_45
def f_X9_court (x1 : Int32) (x2 : Int32) (x3 : Int32) (x4 : Int32) (M : Mem) : Option (Int32 × Mem) := f_X9_court_b0 x1 x2 x3 x4 M
set_option maxRecDepth 20000 in
set_option maxHeartbeats 4000000 in
theorem ok_X9_court {l : Launch} {g : Gam} {b : Nat} : ∀ (x1 : Int32) (x2 : Int32) (x3 : Int32) (x4 : Int32) (M : Mem) (z : Int32 × Mem), f_X9_court x1 x2 x3 x4 M = some z → Cn l g (wC b) m_X9_court [.ref (b + 0), .int x1, .int x2, .int x3, .int x4] M (some (.int z.1)) z.2 := fun x1 x2 x3 x4 M z  hf => Cn_of (by decide +kernel) (Nat.le_of_ble_eq_true rfl) (V_sub [0, 1, 2, 3, 4] rfl (ok_X9_court_b0 x1 x2 x3 x4 M z  hf))

abbrev m_X9_survey : Mth := (yX9_survey, cX9_survey, 4, some .int, 2)
theorem yf_X9_survey : YF m_X9_survey 2 := ⟨tw_917, tw_65, by decide +kernel, by decide +kernel⟩
def f_X9_survey_b0  (x1 : Int32) (x2 : Int32) (M : Mem) : Option (Int32 × Mem) :=
  (f_X9_isBelow x1 (9 : Int32) M).bind fun q1 =>
  if q1.1 = 0 then
    some ((-1000000001 : Int32), q1.2)
  else
    (f_X9_isBelow x2 (1000 : Int32) q1.2).bind fun q2 =>
    if q2.1 = 0 then
      some ((-1000000001 : Int32), q2.2)
    else
      if ixb x1 9 = true then
      if ixb x1 9 = true then
      some ((q2.2 55 (ix x1)), (mset q2.2 55 (ix x1) x2))
      else none
      else none
set_option maxRecDepth 20000 in
set_option maxHeartbeats 4000000 in
theorem ok_X9_survey_b0 {l : Launch} {g : Gam} {b : Nat}   (x1 : Int32) (x2 : Int32) (M : Mem) (z : Int32 × Mem)  (hf : f_X9_survey_b0 x1 x2 M = some z) : V l g (wC b) m_X9_survey 0 [(0, .ref (b + 0)), (1, .int x1), (2, .int x2)] [] M (some (.int z.1)) z.2 := by
  unfold f_X9_survey_b0 at hf
  refine V_iload_n (Y := m_X9_survey) (pc := 0) 1 dX9_survey_0 rfl ?_
  refine V_bipush (Y := m_X9_survey) (pc := 1) (x := (9 : Int32)) dX9_survey_1 (by decide +kernel) ?_
  obtain ⟨q1, hq1, hf⟩ := g_bind hf
  refine V_cSi (Y := m_X9_survey) (pc := 3) (As := [.int x1, .int (9 : Int32)]) yf_X9_isBelow (by decide +kernel) (ok_X9_isBelow x1 (9 : Int32) M _  hq1) tw_473 tw_472 rfl rfl (Nat.le_of_ble_eq_true rfl) dX9_survey_3 ?_
  refine V_if_eq (Y := m_X9_survey) (pc := 6) (tgt := 19) dX9_survey_6 (by decide +kernel) hf (fun hf => ?_) (fun hf => ?_)
  · refine V_ldc (Y := m_X9_survey) (pc := 19) (x := (-1000000001 : Int32)) dX9_survey_19 tw_481 ?_
    obtain rfl := Option.some.inj hf
    exact V_iret (Y := m_X9_survey) rfl dX9_survey_21
  · refine V_iload_n (Y := m_X9_survey) (pc := 9) 2 dX9_survey_9 rfl ?_
    refine V_sipush (Y := m_X9_survey) (pc := 10) (x := (1000 : Int32)) dX9_survey_10 (by decide +kernel) ?_
    obtain ⟨q2, hq2, hf⟩ := g_bind hf
    refine V_cSi (Y := m_X9_survey) (pc := 13) (As := [.int x2, .int (1000 : Int32)]) yf_X9_isBelow (by decide +kernel) (ok_X9_isBelow x2 (1000 : Int32) q1.2 _  hq2) tw_473 tw_472 rfl rfl (Nat.le_of_ble_eq_true rfl) dX9_survey_13 ?_
    refine V_if_ne (Y := m_X9_survey) (pc := 16) (tgt := 22) dX9_survey_16 (by decide +kernel) hf (fun hf => ?_) (fun hf => ?_)
    · refine V_aload_n (Y := m_X9_survey) (pc := 22) 0 dX9_survey_22 rfl ?_
      refine V_grL (Y := m_X9_survey) (pc := 23) (x := 48) 1 kX9 sC_0 (by decide +kernel) rfl rfl tw_430 dX9_survey_23 ?_
      refine V_grL (Y := m_X9_survey) (pc := 26) (x := 55) 8 kX0 sC_48 (by decide +kernel) rfl rfl tw_349 dX9_survey_26 ?_
      refine V_iload_n (Y := m_X9_survey) (pc := 29) 1 dX9_survey_29 rfl ?_
      obtain ⟨hi3, hf⟩ := g_if hf
      refine V_iald (Y := m_X9_survey) (pc := 30) sC_55 hi3 dX9_survey_30 ?_
      refine V_istore_n (Y := m_X9_survey) (pc := 31) [(3, .int (q2.2 55 (ix x1))), (0, .ref (b + 0)), (1, .int x1), (2, .int x2)] dX9_survey_31 (by decide +kernel) rfl ?_
      refine V_aload_n (Y := m_X9_survey) (pc := 32) 1 dX9_survey_32 rfl ?_
      refine V_grL (Y := m_X9_survey) (pc := 33) (x := 48) 1 kX9 sC_0 (by decide +kernel) rfl rfl tw_430 dX9_survey_33 ?_
      refine V_grL (Y := m_X9_survey) (pc := 36) (x := 55) 8 kX0 sC_48 (by decide +kernel) rfl rfl tw_349 dX9_survey_36 ?_
      refine V_iload_n (Y := m_X9_survey) (pc := 39) 2 dX9_survey_39 rfl ?_
      refine V_iload_n (Y := m_X9_survey) (pc := 40) 3 dX9_survey_40 rfl ?_
      obtain ⟨hi4, hf⟩ := g_if hf
      refine V_iast (Y := m_X9_survey) (pc := 41) sC_55 hi4 dX9_survey_41 ?_
      refine V_iload_n (Y := m_X9_survey) (pc := 42) 0 dX9_survey_42 rfl ?_
      obtain rfl := Option.some.inj hf
      exact V_iret (Y := m_X9_survey) rfl dX9_survey_43
    · refine V_ldc (Y := m_X9_survey) (pc := 19) (x := (-1000000001 : Int32)) dX9_survey_19 tw_481 ?_
      obtain rfl := Option.some.inj hf
      exact V_iret (Y := m_X9_survey) rfl dX9_survey_21
def f_X9_survey (x1 : Int32) (x2 : Int32) (M : Mem) : Option (Int32 × Mem) := f_X9_survey_b0 x1 x2 M
set_option maxRecDepth 20000 in
set_option maxHeartbeats 4000000 in
theorem ok_X9_survey {l : Launch} {g : Gam} {b : Nat} : ∀ (x1 : Int32) (x2 : Int32) (M : Mem) (z : Int32 × Mem), f_X9_survey x1 x2 M = some z → Cn l g (wC b) m_X9_survey [.ref (b + 0), .int x1, .int x2] M (some (.int z.1)) z.2 := fun x1 x2 M z  hf => Cn_of (by decide +kernel) (Nat.le_of_ble_eq_true rfl) (V_sub [0, 1, 2] rfl (ok_X9_survey_b0 x1 x2 M z  hf))

abbrev m_X9_held : Mth := (yX9_held, cX9_held, 3, some .int, 7)
theorem yf_X9_held : YF m_X9_held 0 := ⟨tw_921, tw_65, by decide +kernel, by decide +kernel⟩
def f_X9_held_b81 (k4 : Int32 → Int32 → Mem → Option (Int32 × Mem)) (x1 : Int32) (x2 : Int32) (M : Mem) : Option (Int32 × Mem) :=
  k4 x1 (x2 + (1 : Int32)) M
set_option maxRecDepth 20000 in
set_option maxHeartbeats 4000000 in
theorem ok_X9_held_b81 {l : Launch} {g : Gam} {b : Nat} (k4 : Int32 → Int32 → Mem → Option (Int32 × Mem)) (hk4 : ∀ (x1 : Int32) (x2 : Int32) (M : Mem) (z : Int32 × Mem), k4 x1 x2 M = some z → V l g (wC b) m_X9_held 4 [(0, .ref (b + 0)), (1, .int x1), (2, .int x2)] [] M (some (.int z.1)) z.2) (x1 : Int32) (x2 : Int32) (M : Mem) (z : Int32 × Mem)  (hf : f_X9_held_b81 k4 x1 x2 M = some z) : V l g (wC b) m_X9_held 81 [(0, .ref (b + 0)), (1, .int x1), (2, .int x2)] [] M (some (.int z.1)) z.2 := by
  unfold f_X9_held_b81 at hf
  refine V_iinc (Y := m_X9_held) (pc := 81) (y := (x2 + (1 : Int32))) 2 [(2, .int (x2 + (1 : Int32))), (0, .ref (b + 0)), (1, .int x1)] dX9_held_81 rfl rfl (by decide +kernel) rfl ?_
  refine V_goto (Y := m_X9_held) (pc := 84) (tgt := 4) dX9_held_84 (by decide +kernel) ?_
  exact V_sub [1, 2, 0] rfl (hk4 x1 (x2 + (1 : Int32)) M z  hf)
def f_X9_held_b4  : Nat → Int32 → Int32 → Mem → Option (Int32 × Mem)
  | 0, _, _, _ => none
  | n + 1, x1, x2, M =>
    if (9 : Int32) ≤ x2 then
      some (x1, M)
    else
      (f_X1_look 48 x2 M).bind fun q1 =>
      if ixb x2 9 = true then
      if (q1.2 55 (ix x2)) = (-1000000005 : Int32) then
        f_X9_held_b81 (f_X9_held_b4  n) x1 x2 q1.2
      else
        (f_X1_hold  q1.2).bind fun q3 =>
        if q3.1 = 0 then
          f_X9_held_b81 (f_X9_held_b4  n) x1 x2 q3.2
        else
          if ixb x2 9 = true then
          (f_X9_isWithin (q3.2 55 (ix x2)) (q3.2 4 1) (q3.2 4 2) q3.2).bind fun q5 =>
          if q5.1 = 0 then
            f_X9_held_b81 (f_X9_held_b4  n) x1 x2 q5.2
          else
            f_X9_held_b81 (f_X9_held_b4  n) (x1 ||| ((1 : Int32) <<< (x2 &&& 31))) x2 q5.2
          else none
      else none
set_option maxRecDepth 20000 in
set_option maxHeartbeats 4000000 in
theorem ok_X9_held_b4 {l : Launch} {g : Gam} {b : Nat}   : ∀ (n : Nat) (x1 : Int32) (x2 : Int32) (M : Mem) (z : Int32 × Mem), f_X9_held_b4  n x1 x2 M = some z → V l g (wC b) m_X9_held 4 [(0, .ref (b + 0)), (1, .int x1), (2, .int x2)] [] M (some (.int z.1)) z.2 := by
  intro n
  induction n with
  | zero =>
    intro x1 x2 M z  hf
    cases hf
  | succ n ih =>
    intro x1 x2 M z  hf
    rw [f_X9_held_b4] at hf
    refine V_iload_n (Y := m_X9_held) (pc := 4) 2 dX9_held_4 rfl ?_
    refine V_bipush (Y := m_X9_held) (pc := 5) (x := (9 : Int32)) dX9_held_5 (by decide +kernel) ?_
    refine V_icmp_ge (Y := m_X9_held) (pc := 7) (tgt := 87) dX9_held_7 (by decide +kernel) hf (fun hf => ?_) (fun hf => ?_)
    · refine V_iload_n (Y := m_X9_held) (pc := 87) 1 dX9_held_87 rfl ?_
      obtain rfl := Option.some.inj hf
      exact V_iret (Y := m_X9_held) rfl dX9_held_88
    · refine V_aload_n (Y := m_X9_held) (pc := 10) 0 dX9_held_10 rfl ?_
      refine V_grL (Y := m_X9_held) (pc := 11) (x := 4) 3 kX9 sC_0 (by decide +kernel) rfl rfl tw_432 dX9_held_11 ?_
      refine V_aload_n (Y := m_X9_held) (pc := 14) 0 dX9_held_14 rfl ?_
      refine V_grL (Y := m_X9_held) (pc := 15) (x := 48) 1 kX9 sC_0 (by decide +kernel) rfl rfl tw_430 dX9_held_15 ?_
      refine V_iload_n (Y := m_X9_held) (pc := 18) 2 dX9_held_18 rfl ?_
      obtain ⟨q1, hq1, hf⟩ := g_bind hf
      refine V_cVv (Y := m_X9_held) (pc := 19) (As := [.ref (b + 48), .int x2]) yf_X1_look kX1 sC_4 (by decide +kernel) (ok_X1_look 48 x2 M _ sC_48 hq1) tw_718 tw_719 tw_717 rfl rfl (Nat.le_of_ble_eq_true rfl) dX9_held_19 ?_
      refine V_aload_n (Y := m_X9_held) (pc := 22) 0 dX9_held_22 rfl ?_
      refine V_grL (Y := m_X9_held) (pc := 23) (x := 48) 1 kX9 sC_0 (by decide +kernel) rfl rfl tw_430 dX9_held_23 ?_
      refine V_grL (Y := m_X9_held) (pc := 26) (x := 55) 8 kX0 sC_48 (by decide +kernel) rfl rfl tw_349 dX9_held_26 ?_
      refine V_iload_n (Y := m_X9_held) (pc := 29) 2 dX9_held_29 rfl ?_
      obtain ⟨hi2, hf⟩ := g_if hf
      refine V_iald (Y := m_X9_held) (pc := 30) sC_55 hi2 dX9_held_30 ?_
      refine V_ldc (Y := m_X9_held) (pc := 31) (x := (-1000000005 : Int32)) dX9_held_31 tw_562 ?_
      refine V_icmp_eq (Y := m_X9_held) (pc := 33) (tgt := 81) dX9_held_33 (by decide +kernel) hf (fun hf => ?_) (fun hf => ?_)
      · exact V_sub [0, 1, 2] rfl (ok_X9_held_b81 (f_X9_held_b4  n) ih x1 x2 q1.2 z  hf)
      · refine V_aload_n (Y := m_X9_held) (pc := 36) 0 dX9_held_36 rfl ?_
        refine V_grL (Y := m_X9_held) (pc := 37) (x := 4) 3 kX9 sC_0 (by decide +kernel) rfl rfl tw_432 dX9_held_37 ?_
        obtain ⟨q3, hq3, hf⟩ := g_bind hf
        refine V_cVi (Y := m_X9_held) (pc := 40) (As := []) yf_X1_hold kX1 sC_4 (by decide +kernel) (ok_X1_hold  q1.2 _  hq3) tw_743 tw_744 tw_742 rfl rfl (Nat.le_of_ble_eq_true rfl) dX9_held_40 ?_
        refine V_if_eq (Y := m_X9_held) (pc := 43) (tgt := 81) dX9_held_43 (by decide +kernel) hf (fun hf => ?_) (fun hf => ?_)
        · exact V_sub [0, 1, 2] rfl (ok_X9_held_b81 (f_X9_held_b4  n) ih x1 x2 q3.2 z  hf)
        · refine V_aload_n (Y := m_X9_held) (pc := 46) 0 dX9_held_46 rfl ?_
          refine V_grL (Y := m_X9_held) (pc := 47) (x := 48) 1 kX9 sC_0 (by decide +kernel) rfl rfl tw_430 dX9_held_47 ?_
          refine V_grL (Y := m_X9_held) (pc := 50) (x := 55) 8 kX0 sC_48 (by decide +kernel) rfl rfl tw_349 dX9_held_50 ?_
          refine V_iload_n (Y := m_X9_held) (pc := 53) 2 dX9_held_53 rfl ?_
          obtain ⟨hi4, hf⟩ := g_if hf
          refine V_iald (Y := m_X9_held) (pc := 54) sC_55 hi4 dX9_held_54 ?_
          refine V_aload_n (Y := m_X9_held) (pc := 55) 0 dX9_held_55 rfl ?_
          refine V_grL (Y := m_X9_held) (pc := 56) (x := 4) 3 kX9 sC_0 (by decide +kernel) rfl rfl tw_432 dX9_held_56 ?_
          refine V_gi (Y := m_X9_held) (pc := 59) 1 kX1 sC_4 (by decide +kernel) rfl tw_154 dX9_held_59 ?_
          refine V_aload_n (Y := m_X9_held) (pc := 62) 0 dX9_held_62 rfl ?_
          refine V_grL (Y := m_X9_held) (pc := 63) (x := 4) 3 kX9 sC_0 (by decide +kernel) rfl rfl tw_432 dX9_held_63 ?_
          refine V_gi (Y := m_X9_held) (pc := 66) 2 kX1 sC_4 (by decide +kernel) rfl tw_156 dX9_held_66 ?_
          obtain ⟨q5, hq5, hf⟩ := g_bind hf
          refine V_cSi (Y := m_X9_held) (pc := 69) (As := [.int (q3.2 55 (ix x2)), .int (q3.2 4 1), .int (q3.2 4 2)]) yf_X9_isWithin (by decide +kernel) (ok_X9_isWithin (q3.2 55 (ix x2)) (q3.2 4 1) (q3.2 4 2) q3.2 _  hq5) tw_479 tw_478 rfl rfl (Nat.le_of_ble_eq_true rfl) dX9_held_69 ?_
          refine V_if_eq (Y := m_X9_held) (pc := 72) (tgt := 81) dX9_held_72 (by decide +kernel) hf (fun hf => ?_) (fun hf => ?_)
          · exact V_sub [0, 1, 2] rfl (ok_X9_held_b81 (f_X9_held_b4  n) ih x1 x2 q5.2 z  hf)
          · refine V_iload_n (Y := m_X9_held) (pc := 75) 1 dX9_held_75 rfl ?_
            refine V_iconst (Y := m_X9_held) (pc := 76) (x := (1 : Int32)) dX9_held_76 (by decide +kernel) ?_
            refine V_iload_n (Y := m_X9_held) (pc := 77) 2 dX9_held_77 rfl ?_
            refine V_ishl (Y := m_X9_held) (pc := 78) dX9_held_78 ?_
            refine V_ior (Y := m_X9_held) (pc := 79) dX9_held_79 ?_
            refine V_istore_n (Y := m_X9_held) (pc := 80) [(1, .int (x1 ||| ((1 : Int32) <<< (x2 &&& 31)))), (0, .ref (b + 0)), (2, .int x2)] dX9_held_80 (by decide +kernel) rfl ?_
            exact V_sub [1, 0, 2] rfl (ok_X9_held_b81 (f_X9_held_b4  n) ih (x1 ||| ((1 : Int32) <<< (x2 &&& 31))) x2 q5.2 z  hf)
def f_X9_held_b0   (M : Mem) : Option (Int32 × Mem) :=
  f_X9_held_b4  FU (0 : Int32) (0 : Int32) M
set_option maxRecDepth 20000 in
set_option maxHeartbeats 4000000 in
theorem ok_X9_held_b0 {l : Launch} {g : Gam} {b : Nat}    (M : Mem) (z : Int32 × Mem)  (hf : f_X9_held_b0  M = some z) : V l g (wC b) m_X9_held 0 [(0, .ref (b + 0))] [] M (some (.int z.1)) z.2 := by
  unfold f_X9_held_b0 at hf
  refine V_iconst (Y := m_X9_held) (pc := 0) (x := (0 : Int32)) dX9_held_0 (by decide +kernel) ?_
  refine V_istore_n (Y := m_X9_held) (pc := 1) [(1, .int (0 : Int32)), (0, .ref (b + 0))] dX9_held_1 (by decide +kernel) rfl ?_
  refine V_iconst (Y := m_X9_held) (pc := 2) (x := (0 : Int32)) dX9_held_2 (by decide +kernel) ?_
  refine V_istore_n (Y := m_X9_held) (pc := 3) [(2, .int (0 : Int32)), (1, .int (0 : Int32)), (0, .ref (b + 0))] dX9_held_3 (by decide +kernel) rfl ?_
  exact V_sub [2, 1, 0] rfl (ok_X9_held_b4  FU (0 : Int32) (0 : Int32) M z  hf)
def f_X9_held  (M : Mem) : Option (Int32 × Mem) := f_X9_held_b0  M
set_option maxRecDepth 20000 in
set_option maxHeartbeats 4000000 in
theorem ok_X9_held {l : Launch} {g : Gam} {b : Nat} : ∀  (M : Mem) (z : Int32 × Mem), f_X9_held  M = some z → Cn l g (wC b) m_X9_held [.ref (b + 0)] M (some (.int z.1)) z.2 := fun  M z  hf => Cn_of (by decide +kernel) (Nat.le_of_ble_eq_true rfl) (V_sub [0] rfl (ok_X9_held_b0  M z  hf))

abbrev m_X9_misses : Mth := (yX9_misses, cX9_misses, 3, some .int, 7)
theorem yf_X9_misses : YF m_X9_misses 2 := ⟨tw_925, tw_65, by decide +kernel, by decide +kernel⟩
def f_X9_misses_b0  (x1 : Int32) (x2 : Int32) (M : Mem) : Option (Int32 × Mem) :=
  (f_X9_isBelow x1 (3 : Int32) M).bind fun q1 =>
  if q1.1 = 0 then
    some ((-1000000001 : Int32), q1.2)
  else
    (f_X9_isWithin x2 (0 : Int32) (1 : Int32) q1.2).bind fun q2 =>
    if q2.1 = 0 then
      some ((-1000000001 : Int32), q2.2)
    else
      if x2 = 0 then
        (f_X0_missesOf 48 x1 q2.2).bind fun q4 =>
        some (q4.1, q4.2)
      else
        (f_X0_missingMarksOf 48 x1 q2.2).bind fun q3 =>
        some (q3.1, q3.2)
set_option maxRecDepth 20000 in
set_option maxHeartbeats 4000000 in
theorem ok_X9_misses_b0 {l : Launch} {g : Gam} {b : Nat}   (x1 : Int32) (x2 : Int32) (M : Mem) (z : Int32 × Mem)  (hf : f_X9_misses_b0 x1 x2 M = some z) : V l g (wC b) m_X9_misses 0 [(0, .ref (b + 0)), (1, .int x1), (2, .int x2)] [] M (some (.int z.1)) z.2 := by
  unfold f_X9_misses_b0 at hf
  refine V_iload_n (Y := m_X9_misses) (pc := 0) 1 dX9_misses_0 rfl ?_
  refine V_iconst (Y := m_X9_misses) (pc := 1) (x := (3 : Int32)) dX9_misses_1 (by decide +kernel) ?_
  obtain ⟨q1, hq1, hf⟩ := g_bind hf
  refine V_cSi (Y := m_X9_misses) (pc := 2) (As := [.int x1, .int (3 : Int32)]) yf_X9_isBelow (by decide +kernel) (ok_X9_isBelow x1 (3 : Int32) M _  hq1) tw_473 tw_472 rfl rfl (Nat.le_of_ble_eq_true rfl) dX9_misses_2 ?_
  refine V_if_eq (Y := m_X9_misses) (pc := 5) (tgt := 17) dX9_misses_5 (by decide +kernel) hf (fun hf => ?_) (fun hf => ?_)
  · refine V_ldc (Y := m_X9_misses) (pc := 17) (x := (-1000000001 : Int32)) dX9_misses_17 tw_481 ?_
    obtain rfl := Option.some.inj hf
    exact V_iret (Y := m_X9_misses) rfl dX9_misses_19
  · refine V_iload_n (Y := m_X9_misses) (pc := 8) 2 dX9_misses_8 rfl ?_
    refine V_iconst (Y := m_X9_misses) (pc := 9) (x := (0 : Int32)) dX9_misses_9 (by decide +kernel) ?_
    refine V_iconst (Y := m_X9_misses) (pc := 10) (x := (1 : Int32)) dX9_misses_10 (by decide +kernel) ?_
    obtain ⟨q2, hq2, hf⟩ := g_bind hf
    refine V_cSi (Y := m_X9_misses) (pc := 11) (As := [.int x2, .int (0 : Int32), .int (1 : Int32)]) yf_X9_isWithin (by decide +kernel) (ok_X9_isWithin x2 (0 : Int32) (1 : Int32) q1.2 _  hq2) tw_479 tw_478 rfl rfl (Nat.le_of_ble_eq_true rfl) dX9_misses_11 ?_
    refine V_if_ne (Y := m_X9_misses) (pc := 14) (tgt := 20) dX9_misses_14 (by decide +kernel) hf (fun hf => ?_) (fun hf => ?_)
    · refine V_iload_n (Y := m_X9_misses) (pc := 20) 2 dX9_misses_20 rfl ?_
      refine V_if_ne (Y := m_X9_misses) (pc := 21) (tgt := 35) dX9_misses_21 (by decide +kernel) hf (fun hf => ?_) (fun hf => ?_)
      · refine V_aload_n (Y := m_X9_misses) (pc := 35) 0 dX9_misses_35 rfl ?_
        refine V_grL (Y := m_X9_misses) (pc := 36) (x := 48) 1 kX9 sC_0 (by decide +kernel) rfl rfl tw_430 dX9_misses_36 ?_
        refine V_iload_n (Y := m_X9_misses) (pc := 39) 1 dX9_misses_39 rfl ?_
        obtain ⟨q3, hq3, hf⟩ := g_bind hf
        refine V_cVi (Y := m_X9_misses) (pc := 40) (As := [.int x1]) yf_X0_missingMarksOf kX0 sC_48 (by decide +kernel) (ok_X0_missingMarksOf 48 x1 q2.2 _ sC_48 hq3) tw_937 tw_938 tw_936 rfl rfl (Nat.le_of_ble_eq_true rfl) dX9_misses_40 ?_
        obtain rfl := Option.some.inj hf
        exact V_iret (Y := m_X9_misses) rfl dX9_misses_43
      · refine V_aload_n (Y := m_X9_misses) (pc := 24) 0 dX9_misses_24 rfl ?_
        refine V_grL (Y := m_X9_misses) (pc := 25) (x := 48) 1 kX9 sC_0 (by decide +kernel) rfl rfl tw_430 dX9_misses_25 ?_
        refine V_iload_n (Y := m_X9_misses) (pc := 28) 1 dX9_misses_28 rfl ?_
        obtain ⟨q4, hq4, hf⟩ := g_bind hf
        refine V_cVi (Y := m_X9_misses) (pc := 29) (As := [.int x1]) yf_X0_missesOf kX0 sC_48 (by decide +kernel) (ok_X0_missesOf 48 x1 q2.2 _ sC_48 hq4) tw_927 tw_928 tw_926 rfl rfl (Nat.le_of_ble_eq_true rfl) dX9_misses_29 ?_
        refine V_goto (Y := m_X9_misses) (pc := 32) (tgt := 43) dX9_misses_32 (by decide +kernel) ?_
        obtain rfl := Option.some.inj hf
        exact V_iret (Y := m_X9_misses) rfl dX9_misses_43
    · refine V_ldc (Y := m_X9_misses) (pc := 17) (x := (-1000000001 : Int32)) dX9_misses_17 tw_481 ?_
      obtain rfl := Option.some.inj hf
      exact V_iret (Y := m_X9_misses) rfl dX9_misses_19
def f_X9_misses (x1 : Int32) (x2 : Int32) (M : Mem) : Option (Int32 × Mem) := f_X9_misses_b0 x1 x2 M
set_option maxRecDepth 20000 in
set_option maxHeartbeats 4000000 in
theorem ok_X9_misses {l : Launch} {g : Gam} {b : Nat} : ∀ (x1 : Int32) (x2 : Int32) (M : Mem) (z : Int32 × Mem), f_X9_misses x1 x2 M = some z → Cn l g (wC b) m_X9_misses [.ref (b + 0), .int x1, .int x2] M (some (.int z.1)) z.2 := fun x1 x2 M z  hf => Cn_of (by decide +kernel) (Nat.le_of_ble_eq_true rfl) (V_sub [0, 1, 2] rfl (ok_X9_misses_b0 x1 x2 M z  hf))

abbrev m_X9_best : Mth := (yX9_best, cX9_best, 6, some .int, 7)
theorem yf_X9_best : YF m_X9_best 0 := ⟨tw_943, tw_65, by decide +kernel, by decide +kernel⟩
def f_X9_best_b57 (k7 : Int32 → Int32 → Int32 → Mem → Option (Int32 × Mem)) (x1 : Int32) (x2 : Int32) (x3 : Int32) (M : Mem) : Option (Int32 × Mem) :=
  k7 x1 x2 (x3 + (1 : Int32)) M
set_option maxRecDepth 20000 in
set_option maxHeartbeats 4000000 in
theorem ok_X9_best_b57 {l : Launch} {g : Gam} {b : Nat} (k7 : Int32 → Int32 → Int32 → Mem → Option (Int32 × Mem)) (hk7 : ∀ (x1 : Int32) (x2 : Int32) (x3 : Int32) (M : Mem) (z : Int32 × Mem), k7 x1 x2 x3 M = some z → V l g (wC b) m_X9_best 7 [(0, .ref (b + 0)), (1, .int x1), (2, .int x2), (3, .int x3)] [] M (some (.int z.1)) z.2) (x1 : Int32) (x2 : Int32) (x3 : Int32) (M : Mem) (z : Int32 × Mem)  (hf : f_X9_best_b57 k7 x1 x2 x3 M = some z) : V l g (wC b) m_X9_best 57 [(0, .ref (b + 0)), (1, .int x1), (2, .int x2), (3, .int x3)] [] M (some (.int z.1)) z.2 := by
  unfold f_X9_best_b57 at hf
  refine V_iinc (Y := m_X9_best) (pc := 57) (y := (x3 + (1 : Int32))) 3 [(3, .int (x3 + (1 : Int32))), (0, .ref (b + 0)), (1, .int x1), (2, .int x2)] dX9_best_57 rfl rfl (by decide +kernel) rfl ?_
  refine V_goto (Y := m_X9_best) (pc := 60) (tgt := 7) dX9_best_60 (by decide +kernel) ?_
  exact V_sub [1, 2, 3, 0] rfl (hk7 x1 x2 (x3 + (1 : Int32)) M z  hf)
def f_X9_best_b52 (k7 : Int32 → Int32 → Int32 → Mem → Option (Int32 × Mem)) (x3 : Int32) (x5 : Int32) (M : Mem) : Option (Int32 × Mem) :=
  f_X9_best_b57 k7 x3 x5 x3 M
set_option maxRecDepth 20000 in
set_option maxHeartbeats 4000000 in
theorem ok_X9_best_b52 {l : Launch} {g : Gam} {b : Nat} (k7 : Int32 → Int32 → Int32 → Mem → Option (Int32 × Mem)) (hk7 : ∀ (x1 : Int32) (x2 : Int32) (x3 : Int32) (M : Mem) (z : Int32 × Mem), k7 x1 x2 x3 M = some z → V l g (wC b) m_X9_best 7 [(0, .ref (b + 0)), (1, .int x1), (2, .int x2), (3, .int x3)] [] M (some (.int z.1)) z.2) (x3 : Int32) (x5 : Int32) (M : Mem) (z : Int32 × Mem)  (hf : f_X9_best_b52 k7 x3 x5 M = some z) : V l g (wC b) m_X9_best 52 [(0, .ref (b + 0)), (3, .int x3), (5, .int x5)] [] M (some (.int z.1)) z.2 := by
  unfold f_X9_best_b52 at hf
  refine V_iload_n (Y := m_X9_best) (pc := 52) 1 dX9_best_52 rfl ?_
  refine V_istore_n (Y := m_X9_best) (pc := 53) [(1, .int x3), (0, .ref (b + 0)), (3, .int x3), (5, .int x5)] dX9_best_53 (by decide +kernel) rfl ?_
  refine V_iload (Y := m_X9_best) (pc := 54) 3 dX9_best_54 rfl ?_
  refine V_istore_n (Y := m_X9_best) (pc := 56) [(2, .int x5), (1, .int x3), (0, .ref (b + 0)), (3, .int x3), (5, .int x5)] dX9_best_56 (by decide +kernel) rfl ?_
  exact V_sub [2, 1, 0, 3] rfl (ok_X9_best_b57 k7 hk7 x3 x5 x3 M z  hf)
def f_X9_best_b7  : Nat → Int32 → Int32 → Int32 → Mem → Option (Int32 × Mem)
  | 0, _, _, _, _ => none
  | n + 1, x1, x2, x3, M =>
    if (3 : Int32) ≤ x3 then
      some (x1, M)
    else
      (f_X0_missingMarksOf 48 x3 M).bind fun q1 =>
      if q1.1 ≤ 0 then
        f_X9_best_b57 (f_X9_best_b7  n) x1 x2 x3 q1.2
      else
        (f_X0_missesOf 48 x3 q1.2).bind fun q2 =>
        if q1.1 = 0 then none else
        if x1 = (-1000000005 : Int32) then
          f_X9_best_b52 (f_X9_best_b7  n) x3 (q2.1 / q1.1) q2.2
        else
          if x2 ≤ (q2.1 / q1.1) then
            f_X9_best_b57 (f_X9_best_b7  n) x1 x2 x3 q2.2
          else
            f_X9_best_b52 (f_X9_best_b7  n) x3 (q2.1 / q1.1) q2.2
set_option maxRecDepth 20000 in
set_option maxHeartbeats 4000000 in
theorem ok_X9_best_b7 {l : Launch} {g : Gam} {b : Nat}   : ∀ (n : Nat) (x1 : Int32) (x2 : Int32) (x3 : Int32) (M : Mem) (z : Int32 × Mem), f_X9_best_b7  n x1 x2 x3 M = some z → V l g (wC b) m_X9_best 7 [(0, .ref (b + 0)), (1, .int x1), (2, .int x2), (3, .int x3)] [] M (some (.int z.1)) z.2 := by
  intro n
  induction n with
  | zero =>
    intro x1 x2 x3 M z  hf
    cases hf
  | succ n ih =>
    intro x1 x2 x3 M z  hf
    rw [f_X9_best_b7] at hf
    refine V_iload_n (Y := m_X9_best) (pc := 7) 3 dX9_best_7 rfl ?_
    refine V_iconst (Y := m_X9_best) (pc := 8) (x := (3 : Int32)) dX9_best_8 (by decide +kernel) ?_
    refine V_icmp_ge (Y := m_X9_best) (pc := 9) (tgt := 63) dX9_best_9 (by decide +kernel) hf (fun hf => ?_) (fun hf => ?_)
    · refine V_iload_n (Y := m_X9_best) (pc := 63) 1 dX9_best_63 rfl ?_
      obtain rfl := Option.some.inj hf
      exact V_iret (Y := m_X9_best) rfl dX9_best_64
    · refine V_aload_n (Y := m_X9_best) (pc := 12) 0 dX9_best_12 rfl ?_
      refine V_grL (Y := m_X9_best) (pc := 13) (x := 48) 1 kX9 sC_0 (by decide +kernel) rfl rfl tw_430 dX9_best_13 ?_
      refine V_iload_n (Y := m_X9_best) (pc := 16) 3 dX9_best_16 rfl ?_
      obtain ⟨q1, hq1, hf⟩ := g_bind hf
      refine V_cVi (Y := m_X9_best) (pc := 17) (As := [.int x3]) yf_X0_missingMarksOf kX0 sC_48 (by decide +kernel) (ok_X0_missingMarksOf 48 x3 M _ sC_48 hq1) tw_937 tw_938 tw_936 rfl rfl (Nat.le_of_ble_eq_true rfl) dX9_best_17 ?_
      refine V_istore (Y := m_X9_best) (pc := 20) [(4, .int q1.1), (0, .ref (b + 0)), (1, .int x1), (2, .int x2), (3, .int x3)] dX9_best_20 (by decide +kernel) rfl ?_
      refine V_iload (Y := m_X9_best) (pc := 22) 0 dX9_best_22 rfl ?_
      refine V_if_le (Y := m_X9_best) (pc := 24) (tgt := 57) dX9_best_24 (by decide +kernel) hf (fun hf => ?_) (fun hf => ?_)
      · exact V_sub [1, 2, 3, 4] rfl (ok_X9_best_b57 (f_X9_best_b7  n) ih x1 x2 x3 q1.2 z  hf)
      · refine V_aload_n (Y := m_X9_best) (pc := 27) 1 dX9_best_27 rfl ?_
        refine V_grL (Y := m_X9_best) (pc := 28) (x := 48) 1 kX9 sC_0 (by decide +kernel) rfl rfl tw_430 dX9_best_28 ?_
        refine V_iload_n (Y := m_X9_best) (pc := 31) 4 dX9_best_31 rfl ?_
        obtain ⟨q2, hq2, hf⟩ := g_bind hf
        refine V_cVi (Y := m_X9_best) (pc := 32) (As := [.int x3]) yf_X0_missesOf kX0 sC_48 (by decide +kernel) (ok_X0_missesOf 48 x3 q1.2 _ sC_48 hq2) tw_927 tw_928 tw_926 rfl rfl (Nat.le_of_ble_eq_true rfl) dX9_best_32 ?_
        refine V_iload (Y := m_X9_best) (pc := 35) 0 dX9_best_35 rfl ?_
        obtain ⟨hc3, hf⟩ := g_ifn hf
        refine V_idiv (Y := m_X9_best) (pc := 37) dX9_best_37 hc3 ?_
        refine V_istore (Y := m_X9_best) (pc := 38) [(5, .int (q2.1 / q1.1)), (4, .int q1.1), (0, .ref (b + 0)), (1, .int x1), (2, .int x2), (3, .int x3)] dX9_best_38 (by decide +kernel) rfl ?_
        refine V_iload_n (Y := m_X9_best) (pc := 40) 3 dX9_best_40 rfl ?_
        refine V_ldc (Y := m_X9_best) (pc := 41) (x := (-1000000005 : Int32)) dX9_best_41 tw_562 ?_
        refine V_icmp_eq (Y := m_X9_best) (pc := 43) (tgt := 52) dX9_best_43 (by decide +kernel) hf (fun hf => ?_) (fun hf => ?_)
        · exact V_sub [2, 5, 0] rfl (ok_X9_best_b52 (f_X9_best_b7  n) ih x3 (q2.1 / q1.1) q2.2 z  hf)
        · refine V_iload (Y := m_X9_best) (pc := 46) 0 dX9_best_46 rfl ?_
          refine V_iload_n (Y := m_X9_best) (pc := 48) 4 dX9_best_48 rfl ?_
          refine V_icmp_ge (Y := m_X9_best) (pc := 49) (tgt := 57) dX9_best_49 (by decide +kernel) hf (fun hf => ?_) (fun hf => ?_)
          · exact V_sub [2, 3, 4, 5] rfl (ok_X9_best_b57 (f_X9_best_b7  n) ih x1 x2 x3 q2.2 z  hf)
          · exact V_sub [2, 5, 0] rfl (ok_X9_best_b52 (f_X9_best_b7  n) ih x3 (q2.1 / q1.1) q2.2 z  hf)
def f_X9_best_b0   (M : Mem) : Option (Int32 × Mem) :=
  f_X9_best_b7  FU (-1000000005 : Int32) (0 : Int32) (0 : Int32) M
set_option maxRecDepth 20000 in
set_option maxHeartbeats 4000000 in
theorem ok_X9_best_b0 {l : Launch} {g : Gam} {b : Nat}    (M : Mem) (z : Int32 × Mem)  (hf : f_X9_best_b0  M = some z) : V l g (wC b) m_X9_best 0 [(0, .ref (b + 0))] [] M (some (.int z.1)) z.2 := by
  unfold f_X9_best_b0 at hf
  refine V_ldc (Y := m_X9_best) (pc := 0) (x := (-1000000005 : Int32)) dX9_best_0 tw_562 ?_
  refine V_istore_n (Y := m_X9_best) (pc := 2) [(1, .int (-1000000005 : Int32)), (0, .ref (b + 0))] dX9_best_2 (by decide +kernel) rfl ?_
  refine V_iconst (Y := m_X9_best) (pc := 3) (x := (0 : Int32)) dX9_best_3 (by decide +kernel) ?_
  refine V_istore_n (Y := m_X9_best) (pc := 4) [(2, .int (0 : Int32)), (1, .int (-1000000005 : Int32)), (0, .ref (b + 0))] dX9_best_4 (by decide +kernel) rfl ?_
  refine V_iconst (Y := m_X9_best) (pc := 5) (x := (0 : Int32)) dX9_best_5 (by decide +kernel) ?_
  refine V_istore_n (Y := m_X9_best) (pc := 6) [(3, .int (0 : Int32)), (2, .int (0 : Int32)), (1, .int (-1000000005 : Int32)), (0, .ref (b + 0))] dX9_best_6 (by decide +kernel) rfl ?_
  exact V_sub [3, 2, 1, 0] rfl (ok_X9_best_b7  FU (-1000000005 : Int32) (0 : Int32) (0 : Int32) M z  hf)
def f_X9_best  (M : Mem) : Option (Int32 × Mem) := f_X9_best_b0  M
set_option maxRecDepth 20000 in
set_option maxHeartbeats 4000000 in
theorem ok_X9_best {l : Launch} {g : Gam} {b : Nat} : ∀  (M : Mem) (z : Int32 × Mem), f_X9_best  M = some z → Cn l g (wC b) m_X9_best [.ref (b + 0)] M (some (.int z.1)) z.2 := fun  M z  hf => Cn_of (by decide +kernel) (Nat.le_of_ble_eq_true rfl) (V_sub [0] rfl (ok_X9_best_b0  M z  hf))

abbrev m_X9_seed : Mth := (yX9_seed, cX9_seed, 3, some .int, 1)
theorem yf_X9_seed : YF m_X9_seed 1 := ⟨tw_947, tw_65, by decide +kernel, by decide +kernel⟩
def f_X9_seed_b0  (x1 : Int32) (M : Mem) : Option (Int32 × Mem) :=
  some ((M 48 12), (mset M 48 12 x1))
set_option maxRecDepth 20000 in
set_option maxHeartbeats 4000000 in
theorem ok_X9_seed_b0 {l : Launch} {g : Gam} {b : Nat}   (x1 : Int32) (M : Mem) (z : Int32 × Mem)  (hf : f_X9_seed_b0 x1 M = some z) : V l g (wC b) m_X9_seed 0 [(0, .ref (b + 0)), (1, .int x1)] [] M (some (.int z.1)) z.2 := by
  unfold f_X9_seed_b0 at hf
  refine V_aload_n (Y := m_X9_seed) (pc := 0) 0 dX9_seed_0 rfl ?_
  refine V_grL (Y := m_X9_seed) (pc := 1) (x := 48) 1 kX9 sC_0 (by decide +kernel) rfl rfl tw_430 dX9_seed_1 ?_
  refine V_gi (Y := m_X9_seed) (pc := 4) 12 kX0 sC_48 (by decide +kernel) rfl tw_359 dX9_seed_4 ?_
  refine V_istore_n (Y := m_X9_seed) (pc := 7) [(2, .int (M 48 12)), (0, .ref (b + 0)), (1, .int x1)] dX9_seed_7 (by decide +kernel) rfl ?_
  refine V_aload_n (Y := m_X9_seed) (pc := 8) 1 dX9_seed_8 rfl ?_
  refine V_grL (Y := m_X9_seed) (pc := 9) (x := 48) 1 kX9 sC_0 (by decide +kernel) rfl rfl tw_430 dX9_seed_9 ?_
  refine V_iload_n (Y := m_X9_seed) (pc := 12) 2 dX9_seed_12 rfl ?_
  refine V_pi (Y := m_X9_seed) (pc := 13) 12 kX0 sC_48 (by decide +kernel) rfl rfl rfl tw_359 dX9_seed_13 ?_
  refine V_iload_n (Y := m_X9_seed) (pc := 16) 0 dX9_seed_16 rfl ?_
  obtain rfl := Option.some.inj hf
  exact V_iret (Y := m_X9_seed) rfl dX9_seed_17
def f_X9_seed (x1 : Int32) (M : Mem) : Option (Int32 × Mem) := f_X9_seed_b0 x1 M
set_option maxRecDepth 20000 in
set_option maxHeartbeats 4000000 in
theorem ok_X9_seed {l : Launch} {g : Gam} {b : Nat} : ∀ (x1 : Int32) (M : Mem) (z : Int32 × Mem), f_X9_seed x1 M = some z → Cn l g (wC b) m_X9_seed [.ref (b + 0), .int x1] M (some (.int z.1)) z.2 := fun x1 M z  hf => Cn_of (by decide +kernel) (Nat.le_of_ble_eq_true rfl) (V_sub [0, 1] rfl (ok_X9_seed_b0 x1 M z  hf))

abbrev m_X9_share : Mth := (yX9_share, cX9_share, 6, some .int, 3)
theorem yf_X9_share : YF m_X9_share 3 := ⟨tw_951, tw_65, by decide +kernel, by decide +kernel⟩
def f_X9_share_b66 (k41 : Int32 → Int32 → Int32 → Int32 → Int32 → Mem → Option (Int32 × Mem)) (x1 : Int32) (x2 : Int32) (x3 : Int32) (x5 : Int32) (s0 : Int32) (s1 : Int32) (M : Mem) : Option (Int32 × Mem) :=
  k41 x1 x2 x3 (s1 + s0) (x5 + (1 : Int32)) M
set_option maxRecDepth 20000 in
set_option maxHeartbeats 4000000 in
theorem ok_X9_share_b66 {l : Launch} {g : Gam} {b : Nat} (k41 : Int32 → Int32 → Int32 → Int32 → Int32 → Mem → Option (Int32 × Mem)) (hk41 : ∀ (x1 : Int32) (x2 : Int32) (x3 : Int32) (x4 : Int32) (x5 : Int32) (M : Mem) (z : Int32 × Mem), k41 x1 x2 x3 x4 x5 M = some z → V l g (wC b) m_X9_share 41 [(0, .ref (b + 0)), (1, .int x1), (2, .int x2), (3, .int x3), (4, .int x4), (5, .int x5)] [] M (some (.int z.1)) z.2) (x1 : Int32) (x2 : Int32) (x3 : Int32) (x5 : Int32) (s0 : Int32) (s1 : Int32) (M : Mem) (z : Int32 × Mem)  (hf : f_X9_share_b66 k41 x1 x2 x3 x5 s0 s1 M = some z) : V l g (wC b) m_X9_share 66 [(0, .ref (b + 0)), (1, .int x1), (2, .int x2), (3, .int x3), (5, .int x5)] [.int s0, .int s1] M (some (.int z.1)) z.2 := by
  unfold f_X9_share_b66 at hf
  refine V_iadd (Y := m_X9_share) (pc := 66) dX9_share_66 ?_
  refine V_istore (Y := m_X9_share) (pc := 67) [(4, .int (s1 + s0)), (0, .ref (b + 0)), (1, .int x1), (2, .int x2), (3, .int x3), (5, .int x5)] dX9_share_67 (by decide +kernel) rfl ?_
  refine V_iinc (Y := m_X9_share) (pc := 69) (y := (x5 + (1 : Int32))) 5 [(5, .int (x5 + (1 : Int32))), (4, .int (s1 + s0)), (0, .ref (b + 0)), (1, .int x1), (2, .int x2), (3, .int x3)] dX9_share_69 rfl rfl (by decide +kernel) rfl ?_
  refine V_goto (Y := m_X9_share) (pc := 72) (tgt := 41) dX9_share_72 (by decide +kernel) ?_
  exact V_sub [2, 3, 4, 5, 1, 0] rfl (hk41 x1 x2 x3 (s1 + s0) (x5 + (1 : Int32)) M z  hf)
def f_X9_share_b41  : Nat → Int32 → Int32 → Int32 → Int32 → Int32 → Mem → Option (Int32 × Mem)
  | 0, _, _, _, _, _, _ => none
  | n + 1, x1, x2, x3, x4, x5, M =>
    if x1 ≤ x5 then
      some (x4, M)
    else
      (f_X0_sailsWithin 48 x2 x3 M).bind fun q1 =>
      if q1.1 = 0 then
        f_X9_share_b66 (f_X9_share_b41  n) x1 x2 x3 x5 (0 : Int32) x4 q1.2
      else
        f_X9_share_b66 (f_X9_share_b41  n) x1 x2 x3 x5 (1 : Int32) x4 q1.2
set_option maxRecDepth 20000 in
set_option maxHeartbeats 4000000 in
theorem ok_X9_share_b41 {l : Launch} {g : Gam} {b : Nat}   : ∀ (n : Nat) (x1 : Int32) (x2 : Int32) (x3 : Int32) (x4 : Int32) (x5 : Int32) (M : Mem) (z : Int32 × Mem), f_X9_share_b41  n x1 x2 x3 x4 x5 M = some z → V l g (wC b) m_X9_share 41 [(0, .ref (b + 0)), (1, .int x1), (2, .int x2), (3, .int x3), (4, .int x4), (5, .int x5)] [] M (some (.int z.1)) z.2 := by
  intro n
  induction n with
  | zero =>
    intro x1 x2 x3 x4 x5 M z  hf
    cases hf
  | succ n ih =>
    intro x1 x2 x3 x4 x5 M z  hf
    rw [f_X9_share_b41] at hf
    refine V_iload (Y := m_X9_share) (pc := 41) 5 dX9_share_41 rfl ?_
    refine V_iload_n (Y := m_X9_share) (pc := 43) 1 dX9_share_43 rfl ?_
    refine V_icmp_ge (Y := m_X9_share) (pc := 44) (tgt := 75) dX9_share_44 (by decide +kernel) hf (fun hf => ?_) (fun hf => ?_)
    · refine V_iload (Y := m_X9_share) (pc := 75) 4 dX9_share_75 rfl ?_
      obtain rfl := Option.some.inj hf
      exact V_iret (Y := m_X9_share) rfl dX9_share_77
    · refine V_iload (Y := m_X9_share) (pc := 47) 4 dX9_share_47 rfl ?_
      refine V_aload_n (Y := m_X9_share) (pc := 49) 0 dX9_share_49 rfl ?_
      refine V_grL (Y := m_X9_share) (pc := 50) (x := 48) 1 kX9 sC_0 (by decide +kernel) rfl rfl tw_430 dX9_share_50 ?_
      refine V_iload_n (Y := m_X9_share) (pc := 53) 2 dX9_share_53 rfl ?_
      refine V_iload_n (Y := m_X9_share) (pc := 54) 3 dX9_share_54 rfl ?_
      obtain ⟨q1, hq1, hf⟩ := g_bind hf
      refine V_cVi (Y := m_X9_share) (pc := 55) (As := [.int x2, .int x3]) yf_X0_sailsWithin kX0 sC_48 (by decide +kernel) (ok_X0_sailsWithin 48 x2 x3 M _ sC_48 hq1) tw_953 tw_954 tw_952 rfl rfl (Nat.le_of_ble_eq_true rfl) dX9_share_55 ?_
      refine V_if_eq (Y := m_X9_share) (pc := 58) (tgt := 65) dX9_share_58 (by decide +kernel) hf (fun hf => ?_) (fun hf => ?_)
      · refine V_iconst (Y := m_X9_share) (pc := 65) (x := (0 : Int32)) dX9_share_65 (by decide +kernel) ?_
        exact V_sub [0, 1, 2, 3, 5] rfl (ok_X9_share_b66 (f_X9_share_b41  n) ih x1 x2 x3 x5 (0 : Int32) x4 q1.2 z  hf)
      · refine V_iconst (Y := m_X9_share) (pc := 61) (x := (1 : Int32)) dX9_share_61 (by decide +kernel) ?_
        refine V_goto (Y := m_X9_share) (pc := 62) (tgt := 66) dX9_share_62 (by decide +kernel) ?_
        exact V_sub [0, 1, 2, 3, 5] rfl (ok_X9_share_b66 (f_X9_share_b41  n) ih x1 x2 x3 x5 (1 : Int32) x4 q1.2 z  hf)
def f_X9_share_b0  (x1 : Int32) (x2 : Int32) (x3 : Int32) (M : Mem) : Option (Int32 × Mem) :=
  (f_X9_isWithin x1 (1 : Int32) (100 : Int32) M).bind fun q1 =>
  if q1.1 = 0 then
    some ((-1000000001 : Int32), q1.2)
  else
    (f_X9_isWithin x2 (0 : Int32) (200 : Int32) q1.2).bind fun q2 =>
    if q2.1 = 0 then
      some ((-1000000001 : Int32), q2.2)
    else
      (f_X9_isWithin x3 (0 : Int32) (200 : Int32) q2.2).bind fun q3 =>
      if q3.1 = 0 then
        some ((-1000000001 : Int32), q3.2)
      else
        f_X9_share_b41  FU x1 x2 x3 (0 : Int32) (0 : Int32) q3.2
set_option maxRecDepth 20000 in
set_option maxHeartbeats 4000000 in
theorem ok_X9_share_b0 {l : Launch} {g : Gam} {b : Nat}   (x1 : Int32) (x2 : Int32) (x3 : Int32) (M : Mem) (z : Int32 × Mem)  (hf : f_X9_share_b0 x1 x2 x3 M = some z) : V l g (wC b) m_X9_share 0 [(0, .ref (b + 0)), (1, .int x1), (2, .int x2), (3, .int x3)] [] M (some (.int z.1)) z.2 := by
  unfold f_X9_share_b0 at hf
  refine V_iload_n (Y := m_X9_share) (pc := 0) 1 dX9_share_0 rfl ?_
  refine V_iconst (Y := m_X9_share) (pc := 1) (x := (1 : Int32)) dX9_share_1 (by decide +kernel) ?_
  refine V_bipush (Y := m_X9_share) (pc := 2) (x := (100 : Int32)) dX9_share_2 (by decide +kernel) ?_
  obtain ⟨q1, hq1, hf⟩ := g_bind hf
  refine V_cSi (Y := m_X9_share) (pc := 4) (As := [.int x1, .int (1 : Int32), .int (100 : Int32)]) yf_X9_isWithin (by decide +kernel) (ok_X9_isWithin x1 (1 : Int32) (100 : Int32) M _  hq1) tw_479 tw_478 rfl rfl (Nat.le_of_ble_eq_true rfl) dX9_share_4 ?_
  refine V_if_eq (Y := m_X9_share) (pc := 7) (tgt := 32) dX9_share_7 (by decide +kernel) hf (fun hf => ?_) (fun hf => ?_)
  · refine V_ldc (Y := m_X9_share) (pc := 32) (x := (-1000000001 : Int32)) dX9_share_32 tw_481 ?_
    obtain rfl := Option.some.inj hf
    exact V_iret (Y := m_X9_share) rfl dX9_share_34
  · refine V_iload_n (Y := m_X9_share) (pc := 10) 2 dX9_share_10 rfl ?_
    refine V_iconst (Y := m_X9_share) (pc := 11) (x := (0 : Int32)) dX9_share_11 (by decide +kernel) ?_
    refine V_sipush (Y := m_X9_share) (pc := 12) (x := (200 : Int32)) dX9_share_12 (by decide +kernel) ?_
    obtain ⟨q2, hq2, hf⟩ := g_bind hf
    refine V_cSi (Y := m_X9_share) (pc := 15) (As := [.int x2, .int (0 : Int32), .int (200 : Int32)]) yf_X9_isWithin (by decide +kernel) (ok_X9_isWithin x2 (0 : Int32) (200 : Int32) q1.2 _  hq2) tw_479 tw_478 rfl rfl (Nat.le_of_ble_eq_true rfl) dX9_share_15 ?_
    refine V_if_eq (Y := m_X9_share) (pc := 18) (tgt := 32) dX9_share_18 (by decide +kernel) hf (fun hf => ?_) (fun hf => ?_)
    · refine V_ldc (Y := m_X9_share) (pc := 32) (x := (-1000000001 : Int32)) dX9_share_32 tw_481 ?_
      obtain rfl := Option.some.inj hf
      exact V_iret (Y := m_X9_share) rfl dX9_share_34
    · refine V_iload_n (Y := m_X9_share) (pc := 21) 3 dX9_share_21 rfl ?_
      refine V_iconst (Y := m_X9_share) (pc := 22) (x := (0 : Int32)) dX9_share_22 (by decide +kernel) ?_
      refine V_sipush (Y := m_X9_share) (pc := 23) (x := (200 : Int32)) dX9_share_23 (by decide +kernel) ?_
      obtain ⟨q3, hq3, hf⟩ := g_bind hf
      refine V_cSi (Y := m_X9_share) (pc := 26) (As := [.int x3, .int (0 : Int32), .int (200 : Int32)]) yf_X9_isWithin (by decide +kernel) (ok_X9_isWithin x3 (0 : Int32) (200 : Int32) q2.2 _  hq3) tw_479 tw_478 rfl rfl (Nat.le_of_ble_eq_true rfl) dX9_share_26 ?_
      refine V_if_ne (Y := m_X9_share) (pc := 29) (tgt := 35) dX9_share_29 (by decide +kernel) hf (fun hf => ?_) (fun hf => ?_)
      · refine V_iconst (Y := m_X9_share) (pc := 35) (x := (0 : Int32)) dX9_share_35 (by decide +kernel) ?_
        refine V_istore (Y := m_X9_share) (pc := 36) [(4, .int (0 : Int32)), (0, .ref (b + 0)), (1, .int x1), (2, .int x2), (3, .int x3)] dX9_share_36 (by decide +kernel) rfl ?_
        refine V_iconst (Y := m_X9_share) (pc := 38) (x := (0 : Int32)) dX9_share_38 (by decide +kernel) ?_
        refine V_istore (Y := m_X9_share) (pc := 39) [(5, .int (0 : Int32)), (4, .int (0 : Int32)), (0, .ref (b + 0)), (1, .int x1), (2, .int x2), (3, .int x3)] dX9_share_39 (by decide +kernel) rfl ?_
        exact V_sub [2, 3, 4, 5, 1, 0] rfl (ok_X9_share_b41  FU x1 x2 x3 (0 : Int32) (0 : Int32) q3.2 z  hf)
      · refine V_ldc (Y := m_X9_share) (pc := 32) (x := (-1000000001 : Int32)) dX9_share_32 tw_481 ?_
        obtain rfl := Option.some.inj hf
        exact V_iret (Y := m_X9_share) rfl dX9_share_34
def f_X9_share (x1 : Int32) (x2 : Int32) (x3 : Int32) (M : Mem) : Option (Int32 × Mem) := f_X9_share_b0 x1 x2 x3 M
set_option maxRecDepth 20000 in
set_option maxHeartbeats 4000000 in
theorem ok_X9_share {l : Launch} {g : Gam} {b : Nat} : ∀ (x1 : Int32) (x2 : Int32) (x3 : Int32) (M : Mem) (z : Int32 × Mem), f_X9_share x1 x2 x3 M = some z → Cn l g (wC b) m_X9_share [.ref (b + 0), .int x1, .int x2, .int x3] M (some (.int z.1)) z.2 := fun x1 x2 x3 M z  hf => Cn_of (by decide +kernel) (Nat.le_of_ble_eq_true rfl) (V_sub [0, 1, 2, 3] rfl (ok_X9_share_b0 x1 x2 x3 M z  hf))

abbrev m_X9_sheet : Mth := (yX9_sheet, cX9_sheet, 5, some .int, 2)
theorem yf_X9_sheet : YF m_X9_sheet 3 := ⟨tw_966, tw_65, by decide +kernel, by decide +kernel⟩
def f_X9_sheet_b30  (x1 : Int32) (x2 : Int32) (s0 : Int32) (M : Mem) : Option (Int32 × Mem) :=
  if s0 ≤ (24 : Int32) then
    if 0 ≤ s0 then
      if ixb x1 4 = true then
      (f_X6_become (rfC 14 (ix x1)) x2 s0 M).bind fun q2 =>
      some (s0, q2.2)
      else none
    else
      some ((-1000000014 : Int32), M)
  else
    some ((-1000000001 : Int32), M)
set_option maxRecDepth 20000 in
set_option maxHeartbeats 4000000 in
theorem ok_X9_sheet_b30 {l : Launch} {g : Gam} {b : Nat}   (x1 : Int32) (x2 : Int32) (s0 : Int32) (M : Mem) (z : Int32 × Mem)  (hf : f_X9_sheet_b30 x1 x2 s0 M = some z) : V l g (wC b) m_X9_sheet 30 [(0, .ref (b + 0)), (1, .int x1), (2, .int x2)] [.int s0] M (some (.int z.1)) z.2 := by
  unfold f_X9_sheet_b30 at hf
  refine V_istore (Y := m_X9_sheet) (pc := 30) [(4, .int s0), (0, .ref (b + 0)), (1, .int x1), (2, .int x2)] dX9_sheet_30 (by decide +kernel) rfl ?_
  refine V_iload (Y := m_X9_sheet) (pc := 32) 0 dX9_sheet_32 rfl ?_
  refine V_bipush (Y := m_X9_sheet) (pc := 34) (x := (24 : Int32)) dX9_sheet_34 (by decide +kernel) ?_
  refine V_icmp_le (Y := m_X9_sheet) (pc := 36) (tgt := 42) dX9_sheet_36 (by decide +kernel) hf (fun hf => ?_) (fun hf => ?_)
  · refine V_iload (Y := m_X9_sheet) (pc := 42) 0 dX9_sheet_42 rfl ?_
    refine V_if_ge (Y := m_X9_sheet) (pc := 44) (tgt := 51) dX9_sheet_44 (by decide +kernel) hf (fun hf => ?_) (fun hf => ?_)
    · refine V_aload_n (Y := m_X9_sheet) (pc := 51) 1 dX9_sheet_51 rfl ?_
      refine V_grL (Y := m_X9_sheet) (pc := 52) (x := 14) 6 kX9 sC_0 (by decide +kernel) rfl rfl tw_435 dX9_sheet_52 ?_
      refine V_iload_n (Y := m_X9_sheet) (pc := 55) 2 dX9_sheet_55 rfl ?_
      obtain ⟨hi1, hf⟩ := g_if hf
      refine V_aald (Y := m_X9_sheet) (pc := 56) 3 rfl sC_14 hi1 dX9_sheet_56 ?_
      refine V_iload_n (Y := m_X9_sheet) (pc := 57) 3 dX9_sheet_57 rfl ?_
      refine V_iload (Y := m_X9_sheet) (pc := 58) 0 dX9_sheet_58 rfl ?_
      obtain ⟨q2, hq2, hf⟩ := g_bind hf
      refine V_cVv (Y := m_X9_sheet) (pc := 60) (As := [.int x2, .int s0]) yf_X6_become kX6 (wtC.2 _ _ _ sC_14 _ (ixb_lt hi1)) (by decide +kernel) (ok_X6_become (rfC 14 (ix x1)) x2 s0 M _ (wtC.2 _ _ _ sC_14 _ (ixb_lt hi1)) hq2) tw_969 tw_970 tw_968 rfl rfl (Nat.le_of_ble_eq_true rfl) dX9_sheet_60 ?_
      refine V_iload (Y := m_X9_sheet) (pc := 63) 0 dX9_sheet_63 rfl ?_
      obtain rfl := Option.some.inj hf
      exact V_iret (Y := m_X9_sheet) rfl dX9_sheet_65
    · refine V_ldcw (Y := m_X9_sheet) (pc := 47) (x := (-1000000014 : Int32)) dX9_sheet_47 tw_967 ?_
      obtain rfl := Option.some.inj hf
      exact V_iret (Y := m_X9_sheet) rfl dX9_sheet_50
  · refine V_ldc (Y := m_X9_sheet) (pc := 39) (x := (-1000000001 : Int32)) dX9_sheet_39 tw_481 ?_
    obtain rfl := Option.some.inj hf
    exact V_iret (Y := m_X9_sheet) rfl dX9_sheet_41
def f_X9_sheet_b0  (x1 : Int32) (x2 : Int32) (x3 : Int32) (M : Mem) : Option (Int32 × Mem) :=
  (f_X9_isBelow x1 (4 : Int32) M).bind fun q1 =>
  if q1.1 = 0 then
    some ((-1000000001 : Int32), q1.2)
  else
    (f_X9_isWithin x2 (-1 : Int32) (1 : Int32) q1.2).bind fun q2 =>
    if q2.1 = 0 then
      some ((-1000000001 : Int32), q2.2)
    else
      if x2 = (-1 : Int32) then
        f_X9_sheet_b30  x1 x2 (0 : Int32) q2.2
      else
        f_X9_sheet_b30  x1 x2 x3 q2.2
set_option maxRecDepth 20000 in
set_option maxHeartbeats 4000000 in
theorem ok_X9_sheet_b0 {l : Launch} {g : Gam} {b : Nat}   (x1 : Int32) (x2 : Int32) (x3 : Int32) (M : Mem) (z : Int32 × Mem)  (hf : f_X9_sheet_b0 x1 x2 x3 M = some z) : V l g (wC b) m_X9_sheet 0 [(0, .ref (b + 0)), (1, .int x1), (2, .int x2), (3, .int x3)] [] M (some (.int z.1)) z.2 := by
  unfold f_X9_sheet_b0 at hf
  refine V_iload_n (Y := m_X9_sheet) (pc := 0) 1 dX9_sheet_0 rfl ?_
  refine V_iconst (Y := m_X9_sheet) (pc := 1) (x := (4 : Int32)) dX9_sheet_1 (by decide +kernel) ?_
  obtain ⟨q1, hq1, hf⟩ := g_bind hf
  refine V_cSi (Y := m_X9_sheet) (pc := 2) (As := [.int x1, .int (4 : Int32)]) yf_X9_isBelow (by decide +kernel) (ok_X9_isBelow x1 (4 : Int32) M _  hq1) tw_473 tw_472 rfl rfl (Nat.le_of_ble_eq_true rfl) dX9_sheet_2 ?_
  refine V_if_eq (Y := m_X9_sheet) (pc := 5) (tgt := 17) dX9_sheet_5 (by decide +kernel) hf (fun hf => ?_) (fun hf => ?_)
  · refine V_ldc (Y := m_X9_sheet) (pc := 17) (x := (-1000000001 : Int32)) dX9_sheet_17 tw_481 ?_
    obtain rfl := Option.some.inj hf
    exact V_iret (Y := m_X9_sheet) rfl dX9_sheet_19
  · refine V_iload_n (Y := m_X9_sheet) (pc := 8) 2 dX9_sheet_8 rfl ?_
    refine V_iconst (Y := m_X9_sheet) (pc := 9) (x := (-1 : Int32)) dX9_sheet_9 (by decide +kernel) ?_
    refine V_iconst (Y := m_X9_sheet) (pc := 10) (x := (1 : Int32)) dX9_sheet_10 (by decide +kernel) ?_
    obtain ⟨q2, hq2, hf⟩ := g_bind hf
    refine V_cSi (Y := m_X9_sheet) (pc := 11) (As := [.int x2, .int (-1 : Int32), .int (1 : Int32)]) yf_X9_isWithin (by decide +kernel) (ok_X9_isWithin x2 (-1 : Int32) (1 : Int32) q1.2 _  hq2) tw_479 tw_478 rfl rfl (Nat.le_of_ble_eq_true rfl) dX9_sheet_11 ?_
    refine V_if_ne (Y := m_X9_sheet) (pc := 14) (tgt := 20) dX9_sheet_14 (by decide +kernel) hf (fun hf => ?_) (fun hf => ?_)
    · refine V_iload_n (Y := m_X9_sheet) (pc := 20) 2 dX9_sheet_20 rfl ?_
      refine V_iconst (Y := m_X9_sheet) (pc := 21) (x := (-1 : Int32)) dX9_sheet_21 (by decide +kernel) ?_
      refine V_icmp_ne (Y := m_X9_sheet) (pc := 22) (tgt := 29) dX9_sheet_22 (by decide +kernel) hf (fun hf => ?_) (fun hf => ?_)
      · refine V_iload_n (Y := m_X9_sheet) (pc := 29) 3 dX9_sheet_29 rfl ?_
        exact V_sub [0, 1, 2] rfl (ok_X9_sheet_b30  x1 x2 x3 q2.2 z  hf)
      · refine V_iconst (Y := m_X9_sheet) (pc := 25) (x := (0 : Int32)) dX9_sheet_25 (by decide +kernel) ?_
        refine V_goto (Y := m_X9_sheet) (pc := 26) (tgt := 30) dX9_sheet_26 (by decide +kernel) ?_
        exact V_sub [0, 1, 2] rfl (ok_X9_sheet_b30  x1 x2 (0 : Int32) q2.2 z  hf)
    · refine V_ldc (Y := m_X9_sheet) (pc := 17) (x := (-1000000001 : Int32)) dX9_sheet_17 tw_481 ?_
      obtain rfl := Option.some.inj hf
      exact V_iret (Y := m_X9_sheet) rfl dX9_sheet_19
def f_X9_sheet (x1 : Int32) (x2 : Int32) (x3 : Int32) (M : Mem) : Option (Int32 × Mem) := f_X9_sheet_b0 x1 x2 x3 M
set_option maxRecDepth 20000 in
set_option maxHeartbeats 4000000 in
theorem ok_X9_sheet {l : Launch} {g : Gam} {b : Nat} : ∀ (x1 : Int32) (x2 : Int32) (x3 : Int32) (M : Mem) (z : Int32 × Mem), f_X9_sheet x1 x2 x3 M = some z → Cn l g (wC b) m_X9_sheet [.ref (b + 0), .int x1, .int x2, .int x3] M (some (.int z.1)) z.2 := fun x1 x2 x3 M z  hf => Cn_of (by decide +kernel) (Nat.le_of_ble_eq_true rfl) (V_sub [0, 1, 2, 3] rfl (ok_X9_sheet_b0 x1 x2 x3 M z  hf))

abbrev m_X9_write : Mth := (yX9_write, cX9_write, 5, some .int, 2)
theorem yf_X9_write : YF m_X9_write 3 := ⟨tw_975, tw_65, by decide +kernel, by decide +kernel⟩
def f_X9_write_b78  (x2 : Int32) (x3 : Int32) (a4 : Nat) (M : Mem) : Option (Int32 × Mem) :=
  if ixb x2 24 = true then
  some ((1 : Int32), (mset M (rfC a4 2) (ix x2) x3))
  else none
set_option maxRecDepth 20000 in
set_option maxHeartbeats 4000000 in
theorem ok_X9_write_b78 {l : Launch} {g : Gam} {b : Nat}   (x2 : Int32) (x3 : Int32) (a4 : Nat) (M : Mem) (z : Int32 × Mem) (ha4 : shC[a4]? = some (1, 6)) (hf : f_X9_write_b78 x2 x3 a4 M = some z) : V l g (wC b) m_X9_write 78 [(2, .int x2), (3, .int x3), (4, .ref (b + a4))] [] M (some (.int z.1)) z.2 := by
  unfold f_X9_write_b78 at hf
  refine V_aload (Y := m_X9_write) (pc := 78) 2 dX9_write_78 rfl ?_
  refine V_gr (Y := m_X9_write) (pc := 80) 2 kX6 ha4 (by decide +kernel) rfl tw_397 dX9_write_80 ?_
  refine V_iload_n (Y := m_X9_write) (pc := 83) 0 dX9_write_83 rfl ?_
  refine V_iload_n (Y := m_X9_write) (pc := 84) 1 dX9_write_84 rfl ?_
  obtain ⟨hi1, hf⟩ := g_if hf
  refine V_iast (Y := m_X9_write) (pc := 85) (wtC.1 _ _ ha4 2 _ rfl) hi1 dX9_write_85 ?_
  refine V_iconst (Y := m_X9_write) (pc := 86) (x := (1 : Int32)) dX9_write_86 (by decide +kernel) ?_
  obtain rfl := Option.some.inj hf
  exact V_iret (Y := m_X9_write) rfl dX9_write_87
def f_X9_write_b0  (x1 : Int32) (x2 : Int32) (x3 : Int32) (M : Mem) : Option (Int32 × Mem) :=
  (f_X9_isBelow x1 (4 : Int32) M).bind fun q1 =>
  if q1.1 = 0 then
    some ((-1000000001 : Int32), q1.2)
  else
    if ixb x1 4 = true then
    (f_X6_isMissing (rfC 14 (ix x1)) q1.2).bind fun q3 =>
    if q3.1 = 0 then
      (f_X9_isBelow x2 (q3.2 (rfC 14 (ix x1)) 1) q3.2).bind fun q4 =>
      if q4.1 = 0 then
        some ((-1000000013 : Int32), q4.2)
      else
        if (q4.2 (rfC 14 (ix x1)) 0) = (1 : Int32) then
          if x3 = (-1000000005 : Int32) then
            f_X9_write_b78  x2 x3 (rfC 14 (ix x1)) q4.2
          else
            (f_X9_isWithin x3 (-99999 : Int32) (99999 : Int32) q4.2).bind fun q5 =>
            if q5.1 = 0 then
              some ((-1000000001 : Int32), q5.2)
            else
              f_X9_write_b78  x2 x3 (rfC 14 (ix x1)) q5.2
        else
          f_X9_write_b78  x2 x3 (rfC 14 (ix x1)) q4.2
    else
      some ((-1000000011 : Int32), q3.2)
    else none
set_option maxRecDepth 20000 in
set_option maxHeartbeats 4000000 in
theorem ok_X9_write_b0 {l : Launch} {g : Gam} {b : Nat}   (x1 : Int32) (x2 : Int32) (x3 : Int32) (M : Mem) (z : Int32 × Mem)  (hf : f_X9_write_b0 x1 x2 x3 M = some z) : V l g (wC b) m_X9_write 0 [(0, .ref (b + 0)), (1, .int x1), (2, .int x2), (3, .int x3)] [] M (some (.int z.1)) z.2 := by
  unfold f_X9_write_b0 at hf
  refine V_iload_n (Y := m_X9_write) (pc := 0) 1 dX9_write_0 rfl ?_
  refine V_iconst (Y := m_X9_write) (pc := 1) (x := (4 : Int32)) dX9_write_1 (by decide +kernel) ?_
  obtain ⟨q1, hq1, hf⟩ := g_bind hf
  refine V_cSi (Y := m_X9_write) (pc := 2) (As := [.int x1, .int (4 : Int32)]) yf_X9_isBelow (by decide +kernel) (ok_X9_isBelow x1 (4 : Int32) M _  hq1) tw_473 tw_472 rfl rfl (Nat.le_of_ble_eq_true rfl) dX9_write_2 ?_
  refine V_if_ne (Y := m_X9_write) (pc := 5) (tgt := 11) dX9_write_5 (by decide +kernel) hf (fun hf => ?_) (fun hf => ?_)
  · refine V_aload_n (Y := m_X9_write) (pc := 11) 0 dX9_write_11 rfl ?_
    refine V_grL (Y := m_X9_write) (pc := 12) (x := 14) 6 kX9 sC_0 (by decide +kernel) rfl rfl tw_435 dX9_write_12 ?_
    refine V_iload_n (Y := m_X9_write) (pc := 15) 1 dX9_write_15 rfl ?_
    obtain ⟨hi2, hf⟩ := g_if hf
    refine V_aald (Y := m_X9_write) (pc := 16) 3 rfl sC_14 hi2 dX9_write_16 ?_
    refine V_astore (Y := m_X9_write) (pc := 17) [(4, .ref (b + (rfC 14 (ix x1)))), (0, .ref (b + 0)), (1, .int x1), (2, .int x2), (3, .int x3)] dX9_write_17 (by decide +kernel) rfl ?_
    refine V_aload (Y := m_X9_write) (pc := 19) 0 dX9_write_19 rfl ?_
    obtain ⟨q3, hq3, hf⟩ := g_bind hf
    refine V_cVi (Y := m_X9_write) (pc := 21) (As := []) yf_X6_isMissing kX6 (wtC.2 _ _ _ sC_14 _ (ixb_lt hi2)) (by decide +kernel) (ok_X6_isMissing (rfC 14 (ix x1)) q1.2 _ (wtC.2 _ _ _ sC_14 _ (ixb_lt hi2)) hq3) tw_884 tw_885 tw_883 rfl rfl (Nat.le_of_ble_eq_true rfl) dX9_write_21 ?_
    refine V_if_eq (Y := m_X9_write) (pc := 24) (tgt := 31) dX9_write_24 (by decide +kernel) hf (fun hf => ?_) (fun hf => ?_)
    · refine V_iload_n (Y := m_X9_write) (pc := 31) 3 dX9_write_31 rfl ?_
      refine V_aload (Y := m_X9_write) (pc := 32) 0 dX9_write_32 rfl ?_
      refine V_gi (Y := m_X9_write) (pc := 34) 1 kX6 (wtC.2 _ _ _ sC_14 _ (ixb_lt hi2)) (by decide +kernel) rfl tw_395 dX9_write_34 ?_
      obtain ⟨q4, hq4, hf⟩ := g_bind hf
      refine V_cSi (Y := m_X9_write) (pc := 37) (As := [.int x2, .int (q3.2 (rfC 14 (ix x1)) 1)]) yf_X9_isBelow (by decide +kernel) (ok_X9_isBelow x2 (q3.2 (rfC 14 (ix x1)) 1) q3.2 _  hq4) tw_473 tw_472 rfl rfl (Nat.le_of_ble_eq_true rfl) dX9_write_37 ?_
      refine V_if_ne (Y := m_X9_write) (pc := 40) (tgt := 47) dX9_write_40 (by decide +kernel) hf (fun hf => ?_) (fun hf => ?_)
      · refine V_aload (Y := m_X9_write) (pc := 47) 0 dX9_write_47 rfl ?_
        refine V_gi (Y := m_X9_write) (pc := 49) 0 kX6 (wtC.2 _ _ _ sC_14 _ (ixb_lt hi2)) (by decide +kernel) rfl tw_393 dX9_write_49 ?_
        refine V_iconst (Y := m_X9_write) (pc := 52) (x := (1 : Int32)) dX9_write_52 (by decide +kernel) ?_
        refine V_icmp_ne (Y := m_X9_write) (pc := 53) (tgt := 78) dX9_write_53 (by decide +kernel) hf (fun hf => ?_) (fun hf => ?_)
        · exact V_sub [3, 4, 0] rfl (ok_X9_write_b78  x2 x3 (rfC 14 (ix x1)) q4.2 z (wtC.2 _ _ _ sC_14 _ (ixb_lt hi2)) hf)
        · refine V_iload_n (Y := m_X9_write) (pc := 56) 4 dX9_write_56 rfl ?_
          refine V_ldc (Y := m_X9_write) (pc := 57) (x := (-1000000005 : Int32)) dX9_write_57 tw_562 ?_
          refine V_icmp_eq (Y := m_X9_write) (pc := 59) (tgt := 78) dX9_write_59 (by decide +kernel) hf (fun hf => ?_) (fun hf => ?_)
          · exact V_sub [3, 4, 0] rfl (ok_X9_write_b78  x2 x3 (rfC 14 (ix x1)) q4.2 z (wtC.2 _ _ _ sC_14 _ (ixb_lt hi2)) hf)
          · refine V_iload_n (Y := m_X9_write) (pc := 62) 4 dX9_write_62 rfl ?_
            refine V_ldcw (Y := m_X9_write) (pc := 63) (x := (-99999 : Int32)) dX9_write_63 tw_977 ?_
            refine V_ldcw (Y := m_X9_write) (pc := 66) (x := (99999 : Int32)) dX9_write_66 tw_978 ?_
            obtain ⟨q5, hq5, hf⟩ := g_bind hf
            refine V_cSi (Y := m_X9_write) (pc := 69) (As := [.int x3, .int (-99999 : Int32), .int (99999 : Int32)]) yf_X9_isWithin (by decide +kernel) (ok_X9_isWithin x3 (-99999 : Int32) (99999 : Int32) q4.2 _  hq5) tw_479 tw_478 rfl rfl (Nat.le_of_ble_eq_true rfl) dX9_write_69 ?_
            refine V_if_ne (Y := m_X9_write) (pc := 72) (tgt := 78) dX9_write_72 (by decide +kernel) hf (fun hf => ?_) (fun hf => ?_)
            · exact V_sub [3, 4, 0] rfl (ok_X9_write_b78  x2 x3 (rfC 14 (ix x1)) q5.2 z (wtC.2 _ _ _ sC_14 _ (ixb_lt hi2)) hf)
            · refine V_ldc (Y := m_X9_write) (pc := 75) (x := (-1000000001 : Int32)) dX9_write_75 tw_481 ?_
              obtain rfl := Option.some.inj hf
              exact V_iret (Y := m_X9_write) rfl dX9_write_77
      · refine V_ldcw (Y := m_X9_write) (pc := 43) (x := (-1000000013 : Int32)) dX9_write_43 tw_976 ?_
        obtain rfl := Option.some.inj hf
        exact V_iret (Y := m_X9_write) rfl dX9_write_46
    · refine V_ldcw (Y := m_X9_write) (pc := 27) (x := (-1000000011 : Int32)) dX9_write_27 tw_887 ?_
      obtain rfl := Option.some.inj hf
      exact V_iret (Y := m_X9_write) rfl dX9_write_30
  · refine V_ldc (Y := m_X9_write) (pc := 8) (x := (-1000000001 : Int32)) dX9_write_8 tw_481 ?_
    obtain rfl := Option.some.inj hf
    exact V_iret (Y := m_X9_write) rfl dX9_write_10
def f_X9_write (x1 : Int32) (x2 : Int32) (x3 : Int32) (M : Mem) : Option (Int32 × Mem) := f_X9_write_b0 x1 x2 x3 M
set_option maxRecDepth 20000 in
set_option maxHeartbeats 4000000 in
theorem ok_X9_write {l : Launch} {g : Gam} {b : Nat} : ∀ (x1 : Int32) (x2 : Int32) (x3 : Int32) (M : Mem) (z : Int32 × Mem), f_X9_write x1 x2 x3 M = some z → Cn l g (wC b) m_X9_write [.ref (b + 0), .int x1, .int x2, .int x3] M (some (.int z.1)) z.2 := fun x1 x2 x3 M z  hf => Cn_of (by decide +kernel) (Nat.le_of_ble_eq_true rfl) (V_sub [0, 1, 2, 3] rfl (ok_X9_write_b0 x1 x2 x3 M z  hf))

abbrev m_X9_log : Mth := (yX9_log, cX9_log, 6, some .int, 3)
theorem yf_X9_log : YF m_X9_log 2 := ⟨tw_982, tw_65, by decide +kernel, by decide +kernel⟩
def f_X9_log_b129 (k83 : Int32 → Nat → Int32 → Int32 → Mem → Option (Int32 × Mem)) (x2 : Int32) (a3 : Nat) (x4 : Int32) (x5 : Int32) (M : Mem) : Option (Int32 × Mem) :=
  k83 x2 a3 x4 (x5 + (1 : Int32)) M
set_option maxRecDepth 20000 in
set_option maxHeartbeats 4000000 in
theorem ok_X9_log_b129 {l : Launch} {g : Gam} {b : Nat} (k83 : Int32 → Nat → Int32 → Int32 → Mem → Option (Int32 × Mem)) (hk83 : ∀ (x2 : Int32) (a3 : Nat) (x4 : Int32) (x5 : Int32) (M : Mem) (z : Int32 × Mem), shC[a3]? = some (1, 6) → k83 x2 a3 x4 x5 M = some z → V l g (wC b) m_X9_log 83 [(0, .ref (b + 0)), (2, .int x2), (3, .ref (b + a3)), (4, .int x4), (5, .int x5)] [] M (some (.int z.1)) z.2) (x2 : Int32) (a3 : Nat) (x4 : Int32) (x5 : Int32) (M : Mem) (z : Int32 × Mem) (ha3 : shC[a3]? = some (1, 6)) (hf : f_X9_log_b129 k83 x2 a3 x4 x5 M = some z) : V l g (wC b) m_X9_log 129 [(0, .ref (b + 0)), (2, .int x2), (3, .ref (b + a3)), (4, .int x4), (5, .int x5)] [] M (some (.int z.1)) z.2 := by
  unfold f_X9_log_b129 at hf
  refine V_iinc (Y := m_X9_log) (pc := 129) (y := (x5 + (1 : Int32))) 4 [(5, .int (x5 + (1 : Int32))), (0, .ref (b + 0)), (2, .int x2), (3, .ref (b + a3)), (4, .int x4)] dX9_log_129 rfl rfl (by decide +kernel) rfl ?_
  refine V_goto (Y := m_X9_log) (pc := 132) (tgt := 83) dX9_log_132 (by decide +kernel) ?_
  exact V_sub [1, 2, 3, 4, 0] rfl (hk83 x2 a3 x4 (x5 + (1 : Int32)) M z ha3 hf)
def f_X9_log_b83  : Nat → Int32 → Nat → Int32 → Int32 → Mem → Option (Int32 × Mem)
  | 0, _, _, _, _, _ => none
  | n + 1, x2, a3, x4, x5, M =>
    if (M a3 1) ≤ x5 then
      some (x4, M)
    else
      if ixb x5 24 = true then
      (f_X9_isBelow (M (rfC a3 2) (ix x5)) (1000 : Int32) M).bind fun q2 =>
      if q2.1 = 0 then
        f_X9_log_b129 (f_X9_log_b83  n) x2 a3 x4 x5 q2.2
      else
        if ixb x5 24 = true then
        (f_X0_addMark 48 (0 : Int32) (x2 + x5) (q2.2 (rfC a3 2) (ix x5)) (0 : Int32) q2.2).bind fun q4 =>
        f_X9_log_b129 (f_X9_log_b83  n) x2 a3 x4 x5 q4.2
        else none
      else none
set_option maxRecDepth 20000 in
set_option maxHeartbeats 4000000 in
theorem ok_X9_log_b83 {l : Launch} {g : Gam} {b : Nat}   : ∀ (n : Nat) (x2 : Int32) (a3 : Nat) (x4 : Int32) (x5 : Int32) (M : Mem) (z : Int32 × Mem), (ha3 : shC[a3]? = some (1, 6)) → f_X9_log_b83  n x2 a3 x4 x5 M = some z → V l g (wC b) m_X9_log 83 [(0, .ref (b + 0)), (2, .int x2), (3, .ref (b + a3)), (4, .int x4), (5, .int x5)] [] M (some (.int z.1)) z.2 := by
  intro n
  induction n with
  | zero =>
    intro x2 a3 x4 x5 M z ha3 hf
    cases hf
  | succ n ih =>
    intro x2 a3 x4 x5 M z ha3 hf
    rw [f_X9_log_b83] at hf
    refine V_iload (Y := m_X9_log) (pc := 83) 4 dX9_log_83 rfl ?_
    refine V_aload_n (Y := m_X9_log) (pc := 85) 2 dX9_log_85 rfl ?_
    refine V_gi (Y := m_X9_log) (pc := 86) 1 kX6 ha3 (by decide +kernel) rfl tw_395 dX9_log_86 ?_
    refine V_icmp_ge (Y := m_X9_log) (pc := 89) (tgt := 135) dX9_log_89 (by decide +kernel) hf (fun hf => ?_) (fun hf => ?_)
    · refine V_iload (Y := m_X9_log) (pc := 135) 3 dX9_log_135 rfl ?_
      obtain rfl := Option.some.inj hf
      exact V_iret (Y := m_X9_log) rfl dX9_log_137
    · refine V_aload_n (Y := m_X9_log) (pc := 92) 2 dX9_log_92 rfl ?_
      refine V_gr (Y := m_X9_log) (pc := 93) 2 kX6 ha3 (by decide +kernel) rfl tw_397 dX9_log_93 ?_
      refine V_iload (Y := m_X9_log) (pc := 96) 4 dX9_log_96 rfl ?_
      obtain ⟨hi1, hf⟩ := g_if hf
      refine V_iald (Y := m_X9_log) (pc := 98) (wtC.1 _ _ ha3 2 _ rfl) hi1 dX9_log_98 ?_
      refine V_sipush (Y := m_X9_log) (pc := 99) (x := (1000 : Int32)) dX9_log_99 (by decide +kernel) ?_
      obtain ⟨q2, hq2, hf⟩ := g_bind hf
      refine V_cSi (Y := m_X9_log) (pc := 102) (As := [.int (M (rfC a3 2) (ix x5)), .int (1000 : Int32)]) yf_X9_isBelow (by decide +kernel) (ok_X9_isBelow (M (rfC a3 2) (ix x5)) (1000 : Int32) M _  hq2) tw_473 tw_472 rfl rfl (Nat.le_of_ble_eq_true rfl) dX9_log_102 ?_
      refine V_if_eq (Y := m_X9_log) (pc := 105) (tgt := 129) dX9_log_105 (by decide +kernel) hf (fun hf => ?_) (fun hf => ?_)
      · exact V_sub [0, 1, 2, 3, 4] rfl (ok_X9_log_b129 (f_X9_log_b83  n) ih x2 a3 x4 x5 q2.2 z ha3 hf)
      · refine V_aload_n (Y := m_X9_log) (pc := 108) 0 dX9_log_108 rfl ?_
        refine V_grL (Y := m_X9_log) (pc := 109) (x := 48) 1 kX9 sC_0 (by decide +kernel) rfl rfl tw_430 dX9_log_109 ?_
        refine V_iconst (Y := m_X9_log) (pc := 112) (x := (0 : Int32)) dX9_log_112 (by decide +kernel) ?_
        refine V_iload_n (Y := m_X9_log) (pc := 113) 1 dX9_log_113 rfl ?_
        refine V_iload (Y := m_X9_log) (pc := 114) 4 dX9_log_114 rfl ?_
        refine V_iadd (Y := m_X9_log) (pc := 116) dX9_log_116 ?_
        refine V_aload_n (Y := m_X9_log) (pc := 117) 2 dX9_log_117 rfl ?_
        refine V_gr (Y := m_X9_log) (pc := 118) 2 kX6 ha3 (by decide +kernel) rfl tw_397 dX9_log_118 ?_
        refine V_iload (Y := m_X9_log) (pc := 121) 4 dX9_log_121 rfl ?_
        obtain ⟨hi3, hf⟩ := g_if hf
        refine V_iald (Y := m_X9_log) (pc := 123) (wtC.1 _ _ ha3 2 _ rfl) hi3 dX9_log_123 ?_
        refine V_iconst (Y := m_X9_log) (pc := 124) (x := (0 : Int32)) dX9_log_124 (by decide +kernel) ?_
        obtain ⟨q4, hq4, hf⟩ := g_bind hf
        refine V_cVi (Y := m_X9_log) (pc := 125) (As := [.int (0 : Int32), .int (x2 + x5), .int (q2.2 (rfC a3 2) (ix x5)), .int (0 : Int32)]) yf_X0_addMark kX0 sC_48 (by decide +kernel) (ok_X0_addMark 48 (0 : Int32) (x2 + x5) (q2.2 (rfC a3 2) (ix x5)) (0 : Int32) q2.2 _ sC_48 hq4) tw_484 tw_485 tw_483 rfl rfl (Nat.le_of_ble_eq_true rfl) dX9_log_125 ?_
        refine V_pop (Y := m_X9_log) (pc := 128) dX9_log_128 rfl ?_
        exact V_sub [0, 1, 2, 3, 4] rfl (ok_X9_log_b129 (f_X9_log_b83  n) ih x2 a3 x4 x5 q4.2 z ha3 hf)
def f_X9_log_b0  (x1 : Int32) (x2 : Int32) (M : Mem) : Option (Int32 × Mem) :=
  (f_X9_isBelow x1 (4 : Int32) M).bind fun q1 =>
  if q1.1 = 0 then
    some ((-1000000001 : Int32), q1.2)
  else
    (f_X9_isWhen x2 q1.2).bind fun q2 =>
    if q2.1 = 0 then
      some ((-1000000001 : Int32), q2.2)
    else
      if ixb x1 4 = true then
      (f_X6_isMissing (rfC 14 (ix x1)) q2.2).bind fun q4 =>
      if q4.1 = 0 then
        if ((irem x2 (100 : Int32)) + (q4.2 (rfC 14 (ix x1)) 1)) ≤ (100 : Int32) then
          (f_X6_placesWithin (rfC 14 (ix x1)) (1000 : Int32) q4.2).bind fun q5 =>
          if ((q5.2 48 9) + q5.1) ≤ (24 : Int32) then
            f_X9_log_b83  FU x2 (rfC 14 (ix x1)) q5.1 (0 : Int32) q5.2
          else
            some ((-1000000003 : Int32), q5.2)
        else
          some ((-1000000001 : Int32), q4.2)
      else
        some ((-1000000011 : Int32), q4.2)
      else none
set_option maxRecDepth 20000 in
set_option maxHeartbeats 4000000 in
theorem ok_X9_log_b0 {l : Launch} {g : Gam} {b : Nat}   (x1 : Int32) (x2 : Int32) (M : Mem) (z : Int32 × Mem)  (hf : f_X9_log_b0 x1 x2 M = some z) : V l g (wC b) m_X9_log 0 [(0, .ref (b + 0)), (1, .int x1), (2, .int x2)] [] M (some (.int z.1)) z.2 := by
  unfold f_X9_log_b0 at hf
  refine V_iload_n (Y := m_X9_log) (pc := 0) 1 dX9_log_0 rfl ?_
  refine V_iconst (Y := m_X9_log) (pc := 1) (x := (4 : Int32)) dX9_log_1 (by decide +kernel) ?_
  obtain ⟨q1, hq1, hf⟩ := g_bind hf
  refine V_cSi (Y := m_X9_log) (pc := 2) (As := [.int x1, .int (4 : Int32)]) yf_X9_isBelow (by decide +kernel) (ok_X9_isBelow x1 (4 : Int32) M _  hq1) tw_473 tw_472 rfl rfl (Nat.le_of_ble_eq_true rfl) dX9_log_2 ?_
  refine V_if_eq (Y := m_X9_log) (pc := 5) (tgt := 15) dX9_log_5 (by decide +kernel) hf (fun hf => ?_) (fun hf => ?_)
  · refine V_ldc (Y := m_X9_log) (pc := 15) (x := (-1000000001 : Int32)) dX9_log_15 tw_481 ?_
    obtain rfl := Option.some.inj hf
    exact V_iret (Y := m_X9_log) rfl dX9_log_17
  · refine V_iload_n (Y := m_X9_log) (pc := 8) 2 dX9_log_8 rfl ?_
    obtain ⟨q2, hq2, hf⟩ := g_bind hf
    refine V_cSi (Y := m_X9_log) (pc := 9) (As := [.int x2]) yf_X9_isWhen (by decide +kernel) (ok_X9_isWhen x2 q1.2 _  hq2) tw_476 tw_475 rfl rfl (Nat.le_of_ble_eq_true rfl) dX9_log_9 ?_
    refine V_if_ne (Y := m_X9_log) (pc := 12) (tgt := 18) dX9_log_12 (by decide +kernel) hf (fun hf => ?_) (fun hf => ?_)
    · refine V_aload_n (Y := m_X9_log) (pc := 18) 0 dX9_log_18 rfl ?_
      refine V_grL (Y := m_X9_log) (pc := 19) (x := 14) 6 kX9 sC_0 (by decide +kernel) rfl rfl tw_435 dX9_log_19 ?_
      refine V_iload_n (Y := m_X9_log) (pc := 22) 1 dX9_log_22 rfl ?_
      obtain ⟨hi3, hf⟩ := g_if hf
      refine V_aald (Y := m_X9_log) (pc := 23) 3 rfl sC_14 hi3 dX9_log_23 ?_
      refine V_astore_n (Y := m_X9_log) (pc := 24) [(3, .ref (b + (rfC 14 (ix x1)))), (0, .ref (b + 0)), (1, .int x1), (2, .int x2)] dX9_log_24 (by decide +kernel) rfl ?_
      refine V_aload_n (Y := m_X9_log) (pc := 25) 0 dX9_log_25 rfl ?_
      obtain ⟨q4, hq4, hf⟩ := g_bind hf
      refine V_cVi (Y := m_X9_log) (pc := 26) (As := []) yf_X6_isMissing kX6 (wtC.2 _ _ _ sC_14 _ (ixb_lt hi3)) (by decide +kernel) (ok_X6_isMissing (rfC 14 (ix x1)) q2.2 _ (wtC.2 _ _ _ sC_14 _ (ixb_lt hi3)) hq4) tw_884 tw_885 tw_883 rfl rfl (Nat.le_of_ble_eq_true rfl) dX9_log_26 ?_
      refine V_if_eq (Y := m_X9_log) (pc := 29) (tgt := 36) dX9_log_29 (by decide +kernel) hf (fun hf => ?_) (fun hf => ?_)
      · refine V_iload_n (Y := m_X9_log) (pc := 36) 3 dX9_log_36 rfl ?_
        refine V_bipush (Y := m_X9_log) (pc := 37) (x := (100 : Int32)) dX9_log_37 (by decide +kernel) ?_
        refine V_irem (Y := m_X9_log) (pc := 39) dX9_log_39 (by decide +kernel) ?_
        refine V_aload_n (Y := m_X9_log) (pc := 40) 0 dX9_log_40 rfl ?_
        refine V_gi (Y := m_X9_log) (pc := 41) 1 kX6 (wtC.2 _ _ _ sC_14 _ (ixb_lt hi3)) (by decide +kernel) rfl tw_395 dX9_log_41 ?_
        refine V_iadd (Y := m_X9_log) (pc := 44) dX9_log_44 ?_
        refine V_bipush (Y := m_X9_log) (pc := 45) (x := (100 : Int32)) dX9_log_45 (by decide +kernel) ?_
        refine V_icmp_le (Y := m_X9_log) (pc := 47) (tgt := 53) dX9_log_47 (by decide +kernel) hf (fun hf => ?_) (fun hf => ?_)
        · refine V_aload_n (Y := m_X9_log) (pc := 53) 0 dX9_log_53 rfl ?_
          refine V_sipush (Y := m_X9_log) (pc := 54) (x := (1000 : Int32)) dX9_log_54 (by decide +kernel) ?_
          obtain ⟨q5, hq5, hf⟩ := g_bind hf
          refine V_cVi (Y := m_X9_log) (pc := 57) (As := [.int (1000 : Int32)]) yf_X6_placesWithin kX6 (wtC.2 _ _ _ sC_14 _ (ixb_lt hi3)) (by decide +kernel) (ok_X6_placesWithin (rfC 14 (ix x1)) (1000 : Int32) q4.2 _ (wtC.2 _ _ _ sC_14 _ (ixb_lt hi3)) hq5) tw_984 tw_985 tw_983 rfl rfl (Nat.le_of_ble_eq_true rfl) dX9_log_57 ?_
          refine V_istore (Y := m_X9_log) (pc := 60) [(4, .int q5.1), (3, .ref (b + (rfC 14 (ix x1)))), (0, .ref (b + 0)), (1, .int x1), (2, .int x2)] dX9_log_60 (by decide +kernel) rfl ?_
          refine V_aload_n (Y := m_X9_log) (pc := 62) 2 dX9_log_62 rfl ?_
          refine V_grL (Y := m_X9_log) (pc := 63) (x := 48) 1 kX9 sC_0 (by decide +kernel) rfl rfl tw_430 dX9_log_63 ?_
          refine V_gi (Y := m_X9_log) (pc := 66) 9 kX0 sC_48 (by decide +kernel) rfl tw_352 dX9_log_66 ?_
          refine V_iload (Y := m_X9_log) (pc := 69) 0 dX9_log_69 rfl ?_
          refine V_iadd (Y := m_X9_log) (pc := 71) dX9_log_71 ?_
          refine V_bipush (Y := m_X9_log) (pc := 72) (x := (24 : Int32)) dX9_log_72 (by decide +kernel) ?_
          refine V_icmp_le (Y := m_X9_log) (pc := 74) (tgt := 80) dX9_log_74 (by decide +kernel) hf (fun hf => ?_) (fun hf => ?_)
          · refine V_iconst (Y := m_X9_log) (pc := 80) (x := (0 : Int32)) dX9_log_80 (by decide +kernel) ?_
            refine V_istore (Y := m_X9_log) (pc := 81) [(5, .int (0 : Int32)), (4, .int q5.1), (3, .ref (b + (rfC 14 (ix x1)))), (0, .ref (b + 0)), (1, .int x1), (2, .int x2)] dX9_log_81 (by decide +kernel) rfl ?_
            exact V_sub [3, 5, 2, 1, 0] rfl (ok_X9_log_b83  FU x2 (rfC 14 (ix x1)) q5.1 (0 : Int32) q5.2 z (wtC.2 _ _ _ sC_14 _ (ixb_lt hi3)) hf)
          · refine V_ldc (Y := m_X9_log) (pc := 77) (x := (-1000000003 : Int32)) dX9_log_77 tw_482 ?_
            obtain rfl := Option.some.inj hf
            exact V_iret (Y := m_X9_log) rfl dX9_log_79
        · refine V_ldc (Y := m_X9_log) (pc := 50) (x := (-1000000001 : Int32)) dX9_log_50 tw_481 ?_
          obtain rfl := Option.some.inj hf
          exact V_iret (Y := m_X9_log) rfl dX9_log_52
      · refine V_ldcw (Y := m_X9_log) (pc := 32) (x := (-1000000011 : Int32)) dX9_log_32 tw_887 ?_
        obtain rfl := Option.some.inj hf
        exact V_iret (Y := m_X9_log) rfl dX9_log_35
    · refine V_ldc (Y := m_X9_log) (pc := 15) (x := (-1000000001 : Int32)) dX9_log_15 tw_481 ?_
      obtain rfl := Option.some.inj hf
      exact V_iret (Y := m_X9_log) rfl dX9_log_17
def f_X9_log (x1 : Int32) (x2 : Int32) (M : Mem) : Option (Int32 × Mem) := f_X9_log_b0 x1 x2 M
set_option maxRecDepth 20000 in
set_option maxHeartbeats 4000000 in
theorem ok_X9_log {l : Launch} {g : Gam} {b : Nat} : ∀ (x1 : Int32) (x2 : Int32) (M : Mem) (z : Int32 × Mem), f_X9_log x1 x2 M = some z → Cn l g (wC b) m_X9_log [.ref (b + 0), .int x1, .int x2] M (some (.int z.1)) z.2 := fun x1 x2 M z  hf => Cn_of (by decide +kernel) (Nat.le_of_ble_eq_true rfl) (V_sub [0, 1, 2] rfl (ok_X9_log_b0 x1 x2 M z  hf))

abbrev m_X9_copy : Mth := (yX9_copy, cX9_copy, 8, some .int, 2)
theorem yf_X9_copy : YF m_X9_copy 5 := ⟨tw_991, tw_65, by decide +kernel, by decide +kernel⟩
def f_X9_copy_b51   (M : Mem) : Option (Int32 × Mem) :=
  some ((-1000000011 : Int32), M)
set_option maxRecDepth 20000 in
set_option maxHeartbeats 4000000 in
theorem ok_X9_copy_b51 {l : Launch} {g : Gam} {b : Nat}    (M : Mem) (z : Int32 × Mem)  (hf : f_X9_copy_b51  M = some z) : V l g (wC b) m_X9_copy 51 [] [] M (some (.int z.1)) z.2 := by
  unfold f_X9_copy_b51 at hf
  refine V_ldcw (Y := m_X9_copy) (pc := 51) (x := (-1000000011 : Int32)) dX9_copy_51 tw_887 ?_
  obtain rfl := Option.some.inj hf
  exact V_iret (Y := m_X9_copy) rfl dX9_copy_54
def f_X9_copy_b94   (M : Mem) : Option (Int32 × Mem) :=
  some ((-1000000013 : Int32), M)
set_option maxRecDepth 20000 in
set_option maxHeartbeats 4000000 in
theorem ok_X9_copy_b94 {l : Launch} {g : Gam} {b : Nat}    (M : Mem) (z : Int32 × Mem)  (hf : f_X9_copy_b94  M = some z) : V l g (wC b) m_X9_copy 94 [] [] M (some (.int z.1)) z.2 := by
  unfold f_X9_copy_b94 at hf
  refine V_ldcw (Y := m_X9_copy) (pc := 94) (x := (-1000000013 : Int32)) dX9_copy_94 tw_976 ?_
  obtain rfl := Option.some.inj hf
  exact V_iret (Y := m_X9_copy) rfl dX9_copy_97
def f_X9_copy_b0  (x1 : Int32) (x2 : Int32) (x3 : Int32) (x4 : Int32) (x5 : Int32) (M : Mem) : Option (Int32 × Mem) :=
  (f_X9_isBelow x1 (4 : Int32) M).bind fun q1 =>
  if q1.1 = 0 then
    some ((-1000000001 : Int32), q1.2)
  else
    (f_X9_isBelow x3 (4 : Int32) q1.2).bind fun q2 =>
    if q2.1 = 0 then
      some ((-1000000001 : Int32), q2.2)
    else
      if ixb x1 4 = true then
      if ixb x3 4 = true then
      (f_X6_isMissing (rfC 14 (ix x1)) q2.2).bind fun q5 =>
      if q5.1 = 0 then
        (f_X6_isMissing (rfC 14 (ix x3)) q5.2).bind fun q6 =>
        if q6.1 = 0 then
          if (q6.2 (rfC 14 (ix x1)) 0) = (q6.2 (rfC 14 (ix x3)) 0) then
            (f_X6_hasPlaces (rfC 14 (ix x1)) x2 x5 q6.2).bind fun q7 =>
            if q7.1 = 0 then
              f_X9_copy_b94   q7.2
            else
              (f_X6_hasPlaces (rfC 14 (ix x3)) x4 x5 q7.2).bind fun q8 =>
              if q8.1 = 0 then
                f_X9_copy_b94   q8.2
              else
                if cpyb x2 x4 x5 24 24 = true then
                some (x5, (mcpy q8.2 (rfC (rfC 14 (ix x1)) 2) (ix x2) (rfC (rfC 14 (ix x3)) 2) (ix x4) (ix x5)))
                else none
          else
            some ((-1000000012 : Int32), q6.2)
        else
          f_X9_copy_b51   q6.2
      else
        f_X9_copy_b51   q5.2
      else none
      else none
set_option maxRecDepth 20000 in
set_option maxHeartbeats 4000000 in
theorem ok_X9_copy_b0 {l : Launch} {g : Gam} {b : Nat}   (x1 : Int32) (x2 : Int32) (x3 : Int32) (x4 : Int32) (x5 : Int32) (M : Mem) (z : Int32 × Mem)  (hf : f_X9_copy_b0 x1 x2 x3 x4 x5 M = some z) : V l g (wC b) m_X9_copy 0 [(0, .ref (b + 0)), (1, .int x1), (2, .int x2), (3, .int x3), (4, .int x4), (5, .int x5)] [] M (some (.int z.1)) z.2 := by
  unfold f_X9_copy_b0 at hf
  refine V_iload_n (Y := m_X9_copy) (pc := 0) 1 dX9_copy_0 rfl ?_
  refine V_iconst (Y := m_X9_copy) (pc := 1) (x := (4 : Int32)) dX9_copy_1 (by decide +kernel) ?_
  obtain ⟨q1, hq1, hf⟩ := g_bind hf
  refine V_cSi (Y := m_X9_copy) (pc := 2) (As := [.int x1, .int (4 : Int32)]) yf_X9_isBelow (by decide +kernel) (ok_X9_isBelow x1 (4 : Int32) M _  hq1) tw_473 tw_472 rfl rfl (Nat.le_of_ble_eq_true rfl) dX9_copy_2 ?_
  refine V_if_eq (Y := m_X9_copy) (pc := 5) (tgt := 16) dX9_copy_5 (by decide +kernel) hf (fun hf => ?_) (fun hf => ?_)
  · refine V_ldc (Y := m_X9_copy) (pc := 16) (x := (-1000000001 : Int32)) dX9_copy_16 tw_481 ?_
    obtain rfl := Option.some.inj hf
    exact V_iret (Y := m_X9_copy) rfl dX9_copy_18
  · refine V_iload_n (Y := m_X9_copy) (pc := 8) 3 dX9_copy_8 rfl ?_
    refine V_iconst (Y := m_X9_copy) (pc := 9) (x := (4 : Int32)) dX9_copy_9 (by decide +kernel) ?_
    obtain ⟨q2, hq2, hf⟩ := g_bind hf
    refine V_cSi (Y := m_X9_copy) (pc := 10) (As := [.int x3, .int (4 : Int32)]) yf_X9_isBelow (by decide +kernel) (ok_X9_isBelow x3 (4 : Int32) q1.2 _  hq2) tw_473 tw_472 rfl rfl (Nat.le_of_ble_eq_true rfl) dX9_copy_10 ?_
    refine V_if_ne (Y := m_X9_copy) (pc := 13) (tgt := 19) dX9_copy_13 (by decide +kernel) hf (fun hf => ?_) (fun hf => ?_)
    · refine V_aload_n (Y := m_X9_copy) (pc := 19) 0 dX9_copy_19 rfl ?_
      refine V_grL (Y := m_X9_copy) (pc := 20) (x := 14) 6 kX9 sC_0 (by decide +kernel) rfl rfl tw_435 dX9_copy_20 ?_
      refine V_iload_n (Y := m_X9_copy) (pc := 23) 1 dX9_copy_23 rfl ?_
      obtain ⟨hi3, hf⟩ := g_if hf
      refine V_aald (Y := m_X9_copy) (pc := 24) 3 rfl sC_14 hi3 dX9_copy_24 ?_
      refine V_astore (Y := m_X9_copy) (pc := 25) [(6, .ref (b + (rfC 14 (ix x1)))), (0, .ref (b + 0)), (1, .int x1), (2, .int x2), (3, .int x3), (4, .int x4), (5, .int x5)] dX9_copy_25 (by decide +kernel) rfl ?_
      refine V_aload_n (Y := m_X9_copy) (pc := 27) 1 dX9_copy_27 rfl ?_
      refine V_grL (Y := m_X9_copy) (pc := 28) (x := 14) 6 kX9 sC_0 (by decide +kernel) rfl rfl tw_435 dX9_copy_28 ?_
      refine V_iload_n (Y := m_X9_copy) (pc := 31) 4 dX9_copy_31 rfl ?_
      obtain ⟨hi4, hf⟩ := g_if hf
      refine V_aald (Y := m_X9_copy) (pc := 32) 3 rfl sC_14 hi4 dX9_copy_32 ?_
      refine V_astore (Y := m_X9_copy) (pc := 33) [(7, .ref (b + (rfC 14 (ix x3)))), (6, .ref (b + (rfC 14 (ix x1)))), (0, .ref (b + 0)), (1, .int x1), (2, .int x2), (3, .int x3), (4, .int x4), (5, .int x5)] dX9_copy_33 (by decide +kernel) rfl ?_
      refine V_aload (Y := m_X9_copy) (pc := 35) 1 dX9_copy_35 rfl ?_
      obtain ⟨q5, hq5, hf⟩ := g_bind hf
      refine V_cVi (Y := m_X9_copy) (pc := 37) (As := []) yf_X6_isMissing kX6 (wtC.2 _ _ _ sC_14 _ (ixb_lt hi3)) (by decide +kernel) (ok_X6_isMissing (rfC 14 (ix x1)) q2.2 _ (wtC.2 _ _ _ sC_14 _ (ixb_lt hi3)) hq5) tw_884 tw_885 tw_883 rfl rfl (Nat.le_of_ble_eq_true rfl) dX9_copy_37 ?_
      refine V_if_ne (Y := m_X9_copy) (pc := 40) (tgt := 51) dX9_copy_40 (by decide +kernel) hf (fun hf => ?_) (fun hf => ?_)
      · exact V_sub [] rfl (ok_X9_copy_b51   q5.2 z  hf)
      · refine V_aload (Y := m_X9_copy) (pc := 43) 0 dX9_copy_43 rfl ?_
        obtain ⟨q6, hq6, hf⟩ := g_bind hf
        refine V_cVi (Y := m_X9_copy) (pc := 45) (As := []) yf_X6_isMissing kX6 (wtC.2 _ _ _ sC_14 _ (ixb_lt hi4)) (by decide +kernel) (ok_X6_isMissing (rfC 14 (ix x3)) q5.2 _ (wtC.2 _ _ _ sC_14 _ (ixb_lt hi4)) hq6) tw_884 tw_885 tw_883 rfl rfl (Nat.le_of_ble_eq_true rfl) dX9_copy_45 ?_
        refine V_if_eq (Y := m_X9_copy) (pc := 48) (tgt := 55) dX9_copy_48 (by decide +kernel) hf (fun hf => ?_) (fun hf => ?_)
        · refine V_aload (Y := m_X9_copy) (pc := 55) 1 dX9_copy_55 rfl ?_
          refine V_gi (Y := m_X9_copy) (pc := 57) 0 kX6 (wtC.2 _ _ _ sC_14 _ (ixb_lt hi3)) (by decide +kernel) rfl tw_393 dX9_copy_57 ?_
          refine V_aload (Y := m_X9_copy) (pc := 60) 0 dX9_copy_60 rfl ?_
          refine V_gi (Y := m_X9_copy) (pc := 62) 0 kX6 (wtC.2 _ _ _ sC_14 _ (ixb_lt hi4)) (by decide +kernel) rfl tw_393 dX9_copy_62 ?_
          refine V_icmp_eq (Y := m_X9_copy) (pc := 65) (tgt := 71) dX9_copy_65 (by decide +kernel) hf (fun hf => ?_) (fun hf => ?_)
          · refine V_aload (Y := m_X9_copy) (pc := 71) 1 dX9_copy_71 rfl ?_
            refine V_iload_n (Y := m_X9_copy) (pc := 73) 4 dX9_copy_73 rfl ?_
            refine V_iload (Y := m_X9_copy) (pc := 74) 7 dX9_copy_74 rfl ?_
            obtain ⟨q7, hq7, hf⟩ := g_bind hf
            refine V_cVi (Y := m_X9_copy) (pc := 76) (As := [.int x2, .int x5]) yf_X6_hasPlaces kX6 (wtC.2 _ _ _ sC_14 _ (ixb_lt hi3)) (by decide +kernel) (ok_X6_hasPlaces (rfC 14 (ix x1)) x2 x5 q6.2 _ (wtC.2 _ _ _ sC_14 _ (ixb_lt hi3)) hq7) tw_993 tw_994 tw_992 rfl rfl (Nat.le_of_ble_eq_true rfl) dX9_copy_76 ?_
            refine V_if_eq (Y := m_X9_copy) (pc := 79) (tgt := 94) dX9_copy_79 (by decide +kernel) hf (fun hf => ?_) (fun hf => ?_)
            · exact V_sub [] rfl (ok_X9_copy_b94   q7.2 z  hf)
            · refine V_aload (Y := m_X9_copy) (pc := 82) 0 dX9_copy_82 rfl ?_
              refine V_iload (Y := m_X9_copy) (pc := 84) 6 dX9_copy_84 rfl ?_
              refine V_iload (Y := m_X9_copy) (pc := 86) 7 dX9_copy_86 rfl ?_
              obtain ⟨q8, hq8, hf⟩ := g_bind hf
              refine V_cVi (Y := m_X9_copy) (pc := 88) (As := [.int x4, .int x5]) yf_X6_hasPlaces kX6 (wtC.2 _ _ _ sC_14 _ (ixb_lt hi4)) (by decide +kernel) (ok_X6_hasPlaces (rfC 14 (ix x3)) x4 x5 q7.2 _ (wtC.2 _ _ _ sC_14 _ (ixb_lt hi4)) hq8) tw_993 tw_994 tw_992 rfl rfl (Nat.le_of_ble_eq_true rfl) dX9_copy_88 ?_
              refine V_if_ne (Y := m_X9_copy) (pc := 91) (tgt := 98) dX9_copy_91 (by decide +kernel) hf (fun hf => ?_) (fun hf => ?_)
              · refine V_aload (Y := m_X9_copy) (pc := 98) 1 dX9_copy_98 rfl ?_
                refine V_gr (Y := m_X9_copy) (pc := 100) 2 kX6 (wtC.2 _ _ _ sC_14 _ (ixb_lt hi3)) (by decide +kernel) rfl tw_397 dX9_copy_100 ?_
                refine V_iload_n (Y := m_X9_copy) (pc := 103) 4 dX9_copy_103 rfl ?_
                refine V_aload (Y := m_X9_copy) (pc := 104) 0 dX9_copy_104 rfl ?_
                refine V_gr (Y := m_X9_copy) (pc := 106) 2 kX6 (wtC.2 _ _ _ sC_14 _ (ixb_lt hi4)) (by decide +kernel) rfl tw_397 dX9_copy_106 ?_
                refine V_iload (Y := m_X9_copy) (pc := 109) 6 dX9_copy_109 rfl ?_
                refine V_iload (Y := m_X9_copy) (pc := 111) 7 dX9_copy_111 rfl ?_
                obtain ⟨hi9, hf⟩ := g_if hf
                refine V_copy (Y := m_X9_copy) (pc := 113) (by decide +kernel) j_copy tw_996 (Nat.le_of_ble_eq_true rfl) (wtC.1 _ _ (wtC.2 _ _ _ sC_14 _ (ixb_lt hi3)) 2 _ rfl) (wtC.1 _ _ (wtC.2 _ _ _ sC_14 _ (ixb_lt hi4)) 2 _ rfl) hi9 dX9_copy_113 ?_
                refine V_iload (Y := m_X9_copy) (pc := 116) 7 dX9_copy_116 rfl ?_
                obtain rfl := Option.some.inj hf
                exact V_iret (Y := m_X9_copy) rfl dX9_copy_118
              · exact V_sub [] rfl (ok_X9_copy_b94   q8.2 z  hf)
          · refine V_ldc (Y := m_X9_copy) (pc := 68) (x := (-1000000012 : Int32)) dX9_copy_68 tw_557 ?_
            obtain rfl := Option.some.inj hf
            exact V_iret (Y := m_X9_copy) rfl dX9_copy_70
        · exact V_sub [] rfl (ok_X9_copy_b51   q6.2 z  hf)
    · refine V_ldc (Y := m_X9_copy) (pc := 16) (x := (-1000000001 : Int32)) dX9_copy_16 tw_481 ?_
      obtain rfl := Option.some.inj hf
      exact V_iret (Y := m_X9_copy) rfl dX9_copy_18
def f_X9_copy (x1 : Int32) (x2 : Int32) (x3 : Int32) (x4 : Int32) (x5 : Int32) (M : Mem) : Option (Int32 × Mem) := f_X9_copy_b0 x1 x2 x3 x4 x5 M
set_option maxRecDepth 20000 in
set_option maxHeartbeats 4000000 in
theorem ok_X9_copy {l : Launch} {g : Gam} {b : Nat} : ∀ (x1 : Int32) (x2 : Int32) (x3 : Int32) (x4 : Int32) (x5 : Int32) (M : Mem) (z : Int32 × Mem), f_X9_copy x1 x2 x3 x4 x5 M = some z → Cn l g (wC b) m_X9_copy [.ref (b + 0), .int x1, .int x2, .int x3, .int x4, .int x5] M (some (.int z.1)) z.2 := fun x1 x2 x3 x4 x5 M z  hf => Cn_of (by decide +kernel) (Nat.le_of_ble_eq_true rfl) (V_sub [0, 1, 2, 3, 4, 5] rfl (ok_X9_copy_b0 x1 x2 x3 x4 x5 M z  hf))

abbrev m_X9_lay : Mth := (yX9_lay, cX9_lay, 6, some .int, 2)
theorem yf_X9_lay : YF m_X9_lay 3 := ⟨tw_1000, tw_65, by decide +kernel, by decide +kernel⟩
def f_X9_lay_b75  (x1 : Int32) (x2 : Int32) (x3 : Int32) (M : Mem) : Option (Int32 × Mem) :=
  if ixb x1 5 = true then
  if x2 = (1 : Int32) then
    if ixb x3 24 = true then
    some ((M (rfC 15 (ix x1)) 0), (mset (mset M (rfC 15 (ix x1)) 0 x2) (rfC 15 (ix x1)) 1 ((mset M (rfC 15 (ix x1)) 0 x2) (rfC 49 (ix x3)) 0)))
    else none
  else
    if x2 = (2 : Int32) then
      if ixb x3 4 = true then
      (f_X6_takeFrom (rfC (rfC 15 (ix x1)) 3) (rfC 14 (ix x3)) (mset M (rfC 15 (ix x1)) 0 x2)).bind fun q3 =>
      some ((M (rfC 15 (ix x1)) 0), q3.2)
      else none
    else
      some ((M (rfC 15 (ix x1)) 0), (mset (mset M (rfC 15 (ix x1)) 0 x2) (rfC 15 (ix x1)) 2 x3))
  else none
set_option maxRecDepth 20000 in
set_option maxHeartbeats 4000000 in
theorem ok_X9_lay_b75 {l : Launch} {g : Gam} {b : Nat}   (x1 : Int32) (x2 : Int32) (x3 : Int32) (M : Mem) (z : Int32 × Mem)  (hf : f_X9_lay_b75 x1 x2 x3 M = some z) : V l g (wC b) m_X9_lay 75 [(0, .ref (b + 0)), (1, .int x1), (2, .int x2), (3, .int x3)] [] M (some (.int z.1)) z.2 := by
  unfold f_X9_lay_b75 at hf
  refine V_aload_n (Y := m_X9_lay) (pc := 75) 0 dX9_lay_75 rfl ?_
  refine V_grL (Y := m_X9_lay) (pc := 76) (x := 15) 7 kX9 sC_0 (by decide +kernel) rfl rfl tw_436 dX9_lay_76 ?_
  refine V_iload_n (Y := m_X9_lay) (pc := 79) 1 dX9_lay_79 rfl ?_
  obtain ⟨hi1, hf⟩ := g_if hf
  refine V_aald (Y := m_X9_lay) (pc := 80) 4 rfl sC_15 hi1 dX9_lay_80 ?_
  refine V_astore (Y := m_X9_lay) (pc := 81) [(4, .ref (b + (rfC 15 (ix x1)))), (0, .ref (b + 0)), (1, .int x1), (2, .int x2), (3, .int x3)] dX9_lay_81 (by decide +kernel) rfl ?_
  refine V_aload (Y := m_X9_lay) (pc := 83) 0 dX9_lay_83 rfl ?_
  refine V_gi (Y := m_X9_lay) (pc := 85) 0 kX7 (wtC.2 _ _ _ sC_15 _ (ixb_lt hi1)) (by decide +kernel) rfl tw_413 dX9_lay_85 ?_
  refine V_istore (Y := m_X9_lay) (pc := 88) [(5, .int (M (rfC 15 (ix x1)) 0)), (4, .ref (b + (rfC 15 (ix x1)))), (0, .ref (b + 0)), (1, .int x1), (2, .int x2), (3, .int x3)] dX9_lay_88 (by decide +kernel) rfl ?_
  refine V_aload (Y := m_X9_lay) (pc := 90) 1 dX9_lay_90 rfl ?_
  refine V_iload_n (Y := m_X9_lay) (pc := 92) 4 dX9_lay_92 rfl ?_
  refine V_pi (Y := m_X9_lay) (pc := 93) 0 kX7 (wtC.2 _ _ _ sC_15 _ (ixb_lt hi1)) (by decide +kernel) rfl rfl rfl tw_413 dX9_lay_93 ?_
  refine V_iload_n (Y := m_X9_lay) (pc := 96) 4 dX9_lay_96 rfl ?_
  refine V_iconst (Y := m_X9_lay) (pc := 97) (x := (1 : Int32)) dX9_lay_97 (by decide +kernel) ?_
  refine V_icmp_ne (Y := m_X9_lay) (pc := 98) (tgt := 121) dX9_lay_98 (by decide +kernel) hf (fun hf => ?_) (fun hf => ?_)
  · refine V_iload_n (Y := m_X9_lay) (pc := 121) 4 dX9_lay_121 rfl ?_
    refine V_iconst (Y := m_X9_lay) (pc := 122) (x := (2 : Int32)) dX9_lay_122 (by decide +kernel) ?_
    refine V_icmp_ne (Y := m_X9_lay) (pc := 123) (tgt := 143) dX9_lay_123 (by decide +kernel) hf (fun hf => ?_) (fun hf => ?_)
    · refine V_aload (Y := m_X9_lay) (pc := 143) 1 dX9_lay_143 rfl ?_
      refine V_iload_n (Y := m_X9_lay) (pc := 145) 5 dX9_lay_145 rfl ?_
      refine V_pi (Y := m_X9_lay) (pc := 146) 2 kX7 (wtC.2 _ _ _ sC_15 _ (ixb_lt hi1)) (by decide +kernel) rfl rfl rfl tw_417 dX9_lay_146 ?_
      refine V_iload (Y := m_X9_lay) (pc := 149) 0 dX9_lay_149 rfl ?_
      obtain rfl := Option.some.inj hf
      exact V_iret (Y := m_X9_lay) rfl dX9_lay_151
    · refine V_aload (Y := m_X9_lay) (pc := 126) 1 dX9_lay_126 rfl ?_
      refine V_gr (Y := m_X9_lay) (pc := 128) 3 kX7 (wtC.2 _ _ _ sC_15 _ (ixb_lt hi1)) (by decide +kernel) rfl tw_419 dX9_lay_128 ?_
      refine V_aload_n (Y := m_X9_lay) (pc := 131) 2 dX9_lay_131 rfl ?_
      refine V_grL (Y := m_X9_lay) (pc := 132) (x := 14) 6 kX9 sC_0 (by decide +kernel) rfl rfl tw_435 dX9_lay_132 ?_
      refine V_iload_n (Y := m_X9_lay) (pc := 135) 5 dX9_lay_135 rfl ?_
      obtain ⟨hi2, hf⟩ := g_if hf
      refine V_aald (Y := m_X9_lay) (pc := 136) 3 rfl sC_14 hi2 dX9_lay_136 ?_
      obtain ⟨q3, hq3, hf⟩ := g_bind hf
      refine V_cVv (Y := m_X9_lay) (pc := 137) (As := [.ref (b + (rfC 14 (ix x3)))]) yf_X6_takeFrom kX6 (wtC.1 _ _ (wtC.2 _ _ _ sC_15 _ (ixb_lt hi1)) 3 _ rfl) (by decide +kernel) (ok_X6_takeFrom (rfC (rfC 15 (ix x1)) 3) (rfC 14 (ix x3)) (mset M (rfC 15 (ix x1)) 0 x2) _ (wtC.1 _ _ (wtC.2 _ _ _ sC_15 _ (ixb_lt hi1)) 3 _ rfl) (wtC.2 _ _ _ sC_14 _ (ixb_lt hi2)) hq3) tw_1002 tw_1003 tw_1001 rfl rfl (Nat.le_of_ble_eq_true rfl) dX9_lay_137 ?_
      refine V_goto (Y := m_X9_lay) (pc := 140) (tgt := 149) dX9_lay_140 (by decide +kernel) ?_
      refine V_iload (Y := m_X9_lay) (pc := 149) 0 dX9_lay_149 rfl ?_
      obtain rfl := Option.some.inj hf
      exact V_iret (Y := m_X9_lay) rfl dX9_lay_151
  · refine V_aload (Y := m_X9_lay) (pc := 101) 1 dX9_lay_101 rfl ?_
    refine V_aload_n (Y := m_X9_lay) (pc := 103) 2 dX9_lay_103 rfl ?_
    refine V_grL (Y := m_X9_lay) (pc := 104) (x := 48) 1 kX9 sC_0 (by decide +kernel) rfl rfl tw_430 dX9_lay_104 ?_
    refine V_grL (Y := m_X9_lay) (pc := 107) (x := 49) 0 kX0 sC_48 (by decide +kernel) rfl rfl tw_332 dX9_lay_107 ?_
    refine V_iload_n (Y := m_X9_lay) (pc := 110) 5 dX9_lay_110 rfl ?_
    obtain ⟨hi4, hf⟩ := g_if hf
    refine V_aald (Y := m_X9_lay) (pc := 111) 1 rfl sC_49 hi4 dX9_lay_111 ?_
    refine V_gi (Y := m_X9_lay) (pc := 112) 0 kX2 (wtC.2 _ _ _ sC_49 _ (ixb_lt hi4)) (by decide +kernel) rfl tw_284 dX9_lay_112 ?_
    refine V_pi (Y := m_X9_lay) (pc := 115) 1 kX7 (wtC.2 _ _ _ sC_15 _ (ixb_lt hi1)) (by decide +kernel) rfl rfl rfl tw_415 dX9_lay_115 ?_
    refine V_goto (Y := m_X9_lay) (pc := 118) (tgt := 149) dX9_lay_118 (by decide +kernel) ?_
    refine V_iload (Y := m_X9_lay) (pc := 149) 0 dX9_lay_149 rfl ?_
    obtain rfl := Option.some.inj hf
    exact V_iret (Y := m_X9_lay) rfl dX9_lay_151
def f_X9_lay_b54  (x1 : Int32) (x2 : Int32) (x3 : Int32) (M : Mem) : Option (Int32 × Mem) :=
  if x2 = (2 : Int32) then
    if ixb x3 4 = true then
    (f_X6_isMissing (rfC 14 (ix x3)) M).bind fun q2 =>
    if q2.1 = 0 then
      f_X9_lay_b75  x1 x2 x3 q2.2
    else
      some ((-1000000011 : Int32), q2.2)
    else none
  else
    f_X9_lay_b75  x1 x2 x3 M
set_option maxRecDepth 20000 in
set_option maxHeartbeats 4000000 in
theorem ok_X9_lay_b54 {l : Launch} {g : Gam} {b : Nat}   (x1 : Int32) (x2 : Int32) (x3 : Int32) (M : Mem) (z : Int32 × Mem)  (hf : f_X9_lay_b54 x1 x2 x3 M = some z) : V l g (wC b) m_X9_lay 54 [(0, .ref (b + 0)), (1, .int x1), (2, .int x2), (3, .int x3)] [] M (some (.int z.1)) z.2 := by
  unfold f_X9_lay_b54 at hf
  refine V_iload_n (Y := m_X9_lay) (pc := 54) 2 dX9_lay_54 rfl ?_
  refine V_iconst (Y := m_X9_lay) (pc := 55) (x := (2 : Int32)) dX9_lay_55 (by decide +kernel) ?_
  refine V_icmp_ne (Y := m_X9_lay) (pc := 56) (tgt := 75) dX9_lay_56 (by decide +kernel) hf (fun hf => ?_) (fun hf => ?_)
  · exact V_sub [0, 1, 2, 3] rfl (ok_X9_lay_b75  x1 x2 x3 M z  hf)
  · refine V_aload_n (Y := m_X9_lay) (pc := 59) 0 dX9_lay_59 rfl ?_
    refine V_grL (Y := m_X9_lay) (pc := 60) (x := 14) 6 kX9 sC_0 (by decide +kernel) rfl rfl tw_435 dX9_lay_60 ?_
    refine V_iload_n (Y := m_X9_lay) (pc := 63) 3 dX9_lay_63 rfl ?_
    obtain ⟨hi1, hf⟩ := g_if hf
    refine V_aald (Y := m_X9_lay) (pc := 64) 3 rfl sC_14 hi1 dX9_lay_64 ?_
    obtain ⟨q2, hq2, hf⟩ := g_bind hf
    refine V_cVi (Y := m_X9_lay) (pc := 65) (As := []) yf_X6_isMissing kX6 (wtC.2 _ _ _ sC_14 _ (ixb_lt hi1)) (by decide +kernel) (ok_X6_isMissing (rfC 14 (ix x3)) M _ (wtC.2 _ _ _ sC_14 _ (ixb_lt hi1)) hq2) tw_884 tw_885 tw_883 rfl rfl (Nat.le_of_ble_eq_true rfl) dX9_lay_65 ?_
    refine V_if_eq (Y := m_X9_lay) (pc := 68) (tgt := 75) dX9_lay_68 (by decide +kernel) hf (fun hf => ?_) (fun hf => ?_)
    · exact V_sub [0, 1, 2, 3] rfl (ok_X9_lay_b75  x1 x2 x3 q2.2 z  hf)
    · refine V_ldcw (Y := m_X9_lay) (pc := 71) (x := (-1000000011 : Int32)) dX9_lay_71 tw_887 ?_
      obtain rfl := Option.some.inj hf
      exact V_iret (Y := m_X9_lay) rfl dX9_lay_74
def f_X9_lay_b38  (x1 : Int32) (x2 : Int32) (x3 : Int32) (M : Mem) : Option (Int32 × Mem) :=
  if x2 = (2 : Int32) then
    (f_X9_isBelow x3 (4 : Int32) M).bind fun q1 =>
    if q1.1 = 0 then
      some ((-1000000001 : Int32), q1.2)
    else
      f_X9_lay_b54  x1 x2 x3 q1.2
  else
    f_X9_lay_b54  x1 x2 x3 M
set_option maxRecDepth 20000 in
set_option maxHeartbeats 4000000 in
theorem ok_X9_lay_b38 {l : Launch} {g : Gam} {b : Nat}   (x1 : Int32) (x2 : Int32) (x3 : Int32) (M : Mem) (z : Int32 × Mem)  (hf : f_X9_lay_b38 x1 x2 x3 M = some z) : V l g (wC b) m_X9_lay 38 [(0, .ref (b + 0)), (1, .int x1), (2, .int x2), (3, .int x3)] [] M (some (.int z.1)) z.2 := by
  unfold f_X9_lay_b38 at hf
  refine V_iload_n (Y := m_X9_lay) (pc := 38) 2 dX9_lay_38 rfl ?_
  refine V_iconst (Y := m_X9_lay) (pc := 39) (x := (2 : Int32)) dX9_lay_39 (by decide +kernel) ?_
  refine V_icmp_ne (Y := m_X9_lay) (pc := 40) (tgt := 54) dX9_lay_40 (by decide +kernel) hf (fun hf => ?_) (fun hf => ?_)
  · exact V_sub [0, 1, 2, 3] rfl (ok_X9_lay_b54  x1 x2 x3 M z  hf)
  · refine V_iload_n (Y := m_X9_lay) (pc := 43) 3 dX9_lay_43 rfl ?_
    refine V_iconst (Y := m_X9_lay) (pc := 44) (x := (4 : Int32)) dX9_lay_44 (by decide +kernel) ?_
    obtain ⟨q1, hq1, hf⟩ := g_bind hf
    refine V_cSi (Y := m_X9_lay) (pc := 45) (As := [.int x3, .int (4 : Int32)]) yf_X9_isBelow (by decide +kernel) (ok_X9_isBelow x3 (4 : Int32) M _  hq1) tw_473 tw_472 rfl rfl (Nat.le_of_ble_eq_true rfl) dX9_lay_45 ?_
    refine V_if_ne (Y := m_X9_lay) (pc := 48) (tgt := 54) dX9_lay_48 (by decide +kernel) hf (fun hf => ?_) (fun hf => ?_)
    · exact V_sub [0, 1, 2, 3] rfl (ok_X9_lay_b54  x1 x2 x3 q1.2 z  hf)
    · refine V_ldc (Y := m_X9_lay) (pc := 51) (x := (-1000000001 : Int32)) dX9_lay_51 tw_481 ?_
      obtain rfl := Option.some.inj hf
      exact V_iret (Y := m_X9_lay) rfl dX9_lay_53
def f_X9_lay_b0  (x1 : Int32) (x2 : Int32) (x3 : Int32) (M : Mem) : Option (Int32 × Mem) :=
  (f_X9_isBelow x1 (5 : Int32) M).bind fun q1 =>
  if q1.1 = 0 then
    some ((-1000000001 : Int32), q1.2)
  else
    (f_X9_isBelow x2 (4 : Int32) q1.2).bind fun q2 =>
    if q2.1 = 0 then
      some ((-1000000001 : Int32), q2.2)
    else
      if x2 = (1 : Int32) then
        (f_X9_isBelow x3 (q2.2 48 9) q2.2).bind fun q3 =>
        if q3.1 = 0 then
          some ((-1000000001 : Int32), q3.2)
        else
          f_X9_lay_b38  x1 x2 x3 q3.2
      else
        f_X9_lay_b38  x1 x2 x3 q2.2
set_option maxRecDepth 20000 in
set_option maxHeartbeats 4000000 in
theorem ok_X9_lay_b0 {l : Launch} {g : Gam} {b : Nat}   (x1 : Int32) (x2 : Int32) (x3 : Int32) (M : Mem) (z : Int32 × Mem)  (hf : f_X9_lay_b0 x1 x2 x3 M = some z) : V l g (wC b) m_X9_lay 0 [(0, .ref (b + 0)), (1, .int x1), (2, .int x2), (3, .int x3)] [] M (some (.int z.1)) z.2 := by
  unfold f_X9_lay_b0 at hf
  refine V_iload_n (Y := m_X9_lay) (pc := 0) 1 dX9_lay_0 rfl ?_
  refine V_iconst (Y := m_X9_lay) (pc := 1) (x := (5 : Int32)) dX9_lay_1 (by decide +kernel) ?_
  obtain ⟨q1, hq1, hf⟩ := g_bind hf
  refine V_cSi (Y := m_X9_lay) (pc := 2) (As := [.int x1, .int (5 : Int32)]) yf_X9_isBelow (by decide +kernel) (ok_X9_isBelow x1 (5 : Int32) M _  hq1) tw_473 tw_472 rfl rfl (Nat.le_of_ble_eq_true rfl) dX9_lay_2 ?_
  refine V_if_eq (Y := m_X9_lay) (pc := 5) (tgt := 16) dX9_lay_5 (by decide +kernel) hf (fun hf => ?_) (fun hf => ?_)
  · refine V_ldc (Y := m_X9_lay) (pc := 16) (x := (-1000000001 : Int32)) dX9_lay_16 tw_481 ?_
    obtain rfl := Option.some.inj hf
    exact V_iret (Y := m_X9_lay) rfl dX9_lay_18
  · refine V_iload_n (Y := m_X9_lay) (pc := 8) 2 dX9_lay_8 rfl ?_
    refine V_iconst (Y := m_X9_lay) (pc := 9) (x := (4 : Int32)) dX9_lay_9 (by decide +kernel) ?_
    obtain ⟨q2, hq2, hf⟩ := g_bind hf
    refine V_cSi (Y := m_X9_lay) (pc := 10) (As := [.int x2, .int (4 : Int32)]) yf_X9_isBelow (by decide +kernel) (ok_X9_isBelow x2 (4 : Int32) q1.2 _  hq2) tw_473 tw_472 rfl rfl (Nat.le_of_ble_eq_true rfl) dX9_lay_10 ?_
    refine V_if_ne (Y := m_X9_lay) (pc := 13) (tgt := 19) dX9_lay_13 (by decide +kernel) hf (fun hf => ?_) (fun hf => ?_)
    · refine V_iload_n (Y := m_X9_lay) (pc := 19) 2 dX9_lay_19 rfl ?_
      refine V_iconst (Y := m_X9_lay) (pc := 20) (x := (1 : Int32)) dX9_lay_20 (by decide +kernel) ?_
      refine V_icmp_ne (Y := m_X9_lay) (pc := 21) (tgt := 38) dX9_lay_21 (by decide +kernel) hf (fun hf => ?_) (fun hf => ?_)
      · exact V_sub [0, 1, 2, 3] rfl (ok_X9_lay_b38  x1 x2 x3 q2.2 z  hf)
      · refine V_iload_n (Y := m_X9_lay) (pc := 24) 3 dX9_lay_24 rfl ?_
        refine V_aload_n (Y := m_X9_lay) (pc := 25) 0 dX9_lay_25 rfl ?_
        refine V_grL (Y := m_X9_lay) (pc := 26) (x := 48) 1 kX9 sC_0 (by decide +kernel) rfl rfl tw_430 dX9_lay_26 ?_
        refine V_gi (Y := m_X9_lay) (pc := 29) 9 kX0 sC_48 (by decide +kernel) rfl tw_352 dX9_lay_29 ?_
        obtain ⟨q3, hq3, hf⟩ := g_bind hf
        refine V_cSi (Y := m_X9_lay) (pc := 32) (As := [.int x3, .int (q2.2 48 9)]) yf_X9_isBelow (by decide +kernel) (ok_X9_isBelow x3 (q2.2 48 9) q2.2 _  hq3) tw_473 tw_472 rfl rfl (Nat.le_of_ble_eq_true rfl) dX9_lay_32 ?_
        refine V_if_eq (Y := m_X9_lay) (pc := 35) (tgt := 51) dX9_lay_35 (by decide +kernel) hf (fun hf => ?_) (fun hf => ?_)
        · refine V_ldc (Y := m_X9_lay) (pc := 51) (x := (-1000000001 : Int32)) dX9_lay_51 tw_481 ?_
          obtain rfl := Option.some.inj hf
          exact V_iret (Y := m_X9_lay) rfl dX9_lay_53
        · exact V_sub [0, 1, 2, 3] rfl (ok_X9_lay_b38  x1 x2 x3 q3.2 z  hf)
    · refine V_ldc (Y := m_X9_lay) (pc := 16) (x := (-1000000001 : Int32)) dX9_lay_16 tw_481 ?_
      obtain rfl := Option.some.inj hf
      exact V_iret (Y := m_X9_lay) rfl dX9_lay_18
def f_X9_lay (x1 : Int32) (x2 : Int32) (x3 : Int32) (M : Mem) : Option (Int32 × Mem) := f_X9_lay_b0 x1 x2 x3 M
set_option maxRecDepth 20000 in
set_option maxHeartbeats 4000000 in
theorem ok_X9_lay {l : Launch} {g : Gam} {b : Nat} : ∀ (x1 : Int32) (x2 : Int32) (x3 : Int32) (M : Mem) (z : Int32 × Mem), f_X9_lay x1 x2 x3 M = some z → Cn l g (wC b) m_X9_lay [.ref (b + 0), .int x1, .int x2, .int x3] M (some (.int z.1)) z.2 := fun x1 x2 x3 M z  hf => Cn_of (by decide +kernel) (Nat.le_of_ble_eq_true rfl) (V_sub [0, 1, 2, 3] rfl (ok_X9_lay_b0 x1 x2 x3 M z  hf))

abbrev m_X9_lackOf : Mth := (yX9_lackOf, cX9_lackOf, 3, some .int, 2)
theorem yf_X9_lackOf : YF m_X9_lackOf 2 := ⟨tw_1013, tw_65, by decide +kernel, by decide +kernel⟩
def f_X9_lackOf_b0  (x1 : Int32) (x2 : Int32) (M : Mem) : Option (Int32 × Mem) :=
  (f_X9_isBelow x1 (5 : Int32) M).bind fun q1 =>
  if q1.1 = 0 then
    some ((-1000000001 : Int32), q1.2)
  else
    if ixb x1 5 = true then
    if (q1.2 (rfC 15 (ix x1)) 0) = 0 then
      some ((-1000000011 : Int32), q1.2)
    else
      if ixb x1 5 = true then
      if (q1.2 (rfC 15 (ix x1)) 0) = x2 then
        some ((0 : Int32), q1.2)
      else
        some ((-1000000012 : Int32), q1.2)
      else none
    else none
set_option maxRecDepth 20000 in
set_option maxHeartbeats 4000000 in
theorem ok_X9_lackOf_b0 {l : Launch} {g : Gam} {b : Nat}   (x1 : Int32) (x2 : Int32) (M : Mem) (z : Int32 × Mem)  (hf : f_X9_lackOf_b0 x1 x2 M = some z) : V l g (wC b) m_X9_lackOf 0 [(0, .ref (b + 0)), (1, .int x1), (2, .int x2)] [] M (some (.int z.1)) z.2 := by
  unfold f_X9_lackOf_b0 at hf
  refine V_iload_n (Y := m_X9_lackOf) (pc := 0) 1 dX9_lackOf_0 rfl ?_
  refine V_iconst (Y := m_X9_lackOf) (pc := 1) (x := (5 : Int32)) dX9_lackOf_1 (by decide +kernel) ?_
  obtain ⟨q1, hq1, hf⟩ := g_bind hf
  refine V_cSi (Y := m_X9_lackOf) (pc := 2) (As := [.int x1, .int (5 : Int32)]) yf_X9_isBelow (by decide +kernel) (ok_X9_isBelow x1 (5 : Int32) M _  hq1) tw_473 tw_472 rfl rfl (Nat.le_of_ble_eq_true rfl) dX9_lackOf_2 ?_
  refine V_if_ne (Y := m_X9_lackOf) (pc := 5) (tgt := 11) dX9_lackOf_5 (by decide +kernel) hf (fun hf => ?_) (fun hf => ?_)
  · refine V_aload_n (Y := m_X9_lackOf) (pc := 11) 0 dX9_lackOf_11 rfl ?_
    refine V_grL (Y := m_X9_lackOf) (pc := 12) (x := 15) 7 kX9 sC_0 (by decide +kernel) rfl rfl tw_436 dX9_lackOf_12 ?_
    refine V_iload_n (Y := m_X9_lackOf) (pc := 15) 1 dX9_lackOf_15 rfl ?_
    obtain ⟨hi2, hf⟩ := g_if hf
    refine V_aald (Y := m_X9_lackOf) (pc := 16) 4 rfl sC_15 hi2 dX9_lackOf_16 ?_
    refine V_gi (Y := m_X9_lackOf) (pc := 17) 0 kX7 (wtC.2 _ _ _ sC_15 _ (ixb_lt hi2)) (by decide +kernel) rfl tw_413 dX9_lackOf_17 ?_
    refine V_if_ne (Y := m_X9_lackOf) (pc := 20) (tgt := 27) dX9_lackOf_20 (by decide +kernel) hf (fun hf => ?_) (fun hf => ?_)
    · refine V_aload_n (Y := m_X9_lackOf) (pc := 27) 0 dX9_lackOf_27 rfl ?_
      refine V_grL (Y := m_X9_lackOf) (pc := 28) (x := 15) 7 kX9 sC_0 (by decide +kernel) rfl rfl tw_436 dX9_lackOf_28 ?_
      refine V_iload_n (Y := m_X9_lackOf) (pc := 31) 1 dX9_lackOf_31 rfl ?_
      obtain ⟨hi3, hf⟩ := g_if hf
      refine V_aald (Y := m_X9_lackOf) (pc := 32) 4 rfl sC_15 hi3 dX9_lackOf_32 ?_
      refine V_gi (Y := m_X9_lackOf) (pc := 33) 0 kX7 (wtC.2 _ _ _ sC_15 _ (ixb_lt hi3)) (by decide +kernel) rfl tw_413 dX9_lackOf_33 ?_
      refine V_iload_n (Y := m_X9_lackOf) (pc := 36) 2 dX9_lackOf_36 rfl ?_
      refine V_icmp_ne (Y := m_X9_lackOf) (pc := 37) (tgt := 44) dX9_lackOf_37 (by decide +kernel) hf (fun hf => ?_) (fun hf => ?_)
      · refine V_ldc (Y := m_X9_lackOf) (pc := 44) (x := (-1000000012 : Int32)) dX9_lackOf_44 tw_557 ?_
        obtain rfl := Option.some.inj hf
        exact V_iret (Y := m_X9_lackOf) rfl dX9_lackOf_46
      · refine V_iconst (Y := m_X9_lackOf) (pc := 40) (x := (0 : Int32)) dX9_lackOf_40 (by decide +kernel) ?_
        refine V_goto (Y := m_X9_lackOf) (pc := 41) (tgt := 46) dX9_lackOf_41 (by decide +kernel) ?_
        obtain rfl := Option.some.inj hf
        exact V_iret (Y := m_X9_lackOf) rfl dX9_lackOf_46
    · refine V_ldcw (Y := m_X9_lackOf) (pc := 23) (x := (-1000000011 : Int32)) dX9_lackOf_23 tw_887 ?_
      obtain rfl := Option.some.inj hf
      exact V_iret (Y := m_X9_lackOf) rfl dX9_lackOf_26
  · refine V_ldc (Y := m_X9_lackOf) (pc := 8) (x := (-1000000001 : Int32)) dX9_lackOf_8 tw_481 ?_
    obtain rfl := Option.some.inj hf
    exact V_iret (Y := m_X9_lackOf) rfl dX9_lackOf_10
def f_X9_lackOf (x1 : Int32) (x2 : Int32) (M : Mem) : Option (Int32 × Mem) := f_X9_lackOf_b0 x1 x2 M
set_option maxRecDepth 20000 in
set_option maxHeartbeats 4000000 in
theorem ok_X9_lackOf {l : Launch} {g : Gam} {b : Nat} : ∀ (x1 : Int32) (x2 : Int32) (M : Mem) (z : Int32 × Mem), f_X9_lackOf x1 x2 M = some z → Cn l g (wC b) m_X9_lackOf [.ref (b + 0), .int x1, .int x2] M (some (.int z.1)) z.2 := fun x1 x2 M z  hf => Cn_of (by decide +kernel) (Nat.le_of_ble_eq_true rfl) (V_sub [0, 1, 2] rfl (ok_X9_lackOf_b0 x1 x2 M z  hf))

abbrev m_X9_ask : Mth := (yX9_ask, cX9_ask, 5, some .int, 3)
theorem yf_X9_ask : YF m_X9_ask 2 := ⟨tw_1009, tw_65, by decide +kernel, by decide +kernel⟩
def f_X9_ask_b22  (x1 : Int32) (x2 : Int32) (s0 : Int32) (M : Mem) : Option (Int32 × Mem) :=
  if s0 = 0 then
    if ixb x1 5 = true then
    (f_X9_isUnder (M (rfC 15 (ix x1)) 1) x2 M).bind fun q2 =>
    if q2.1 = 0 then
      some ((-1000000012 : Int32), q2.2)
    else
      (f_X9_worthOf (M (rfC 15 (ix x1)) 1) q2.2).bind fun q3 =>
      some (q3.1, q3.2)
    else none
  else
    some (s0, M)
set_option maxRecDepth 20000 in
set_option maxHeartbeats 4000000 in
theorem ok_X9_ask_b22 {l : Launch} {g : Gam} {b : Nat}   (x1 : Int32) (x2 : Int32) (s0 : Int32) (M : Mem) (z : Int32 × Mem)  (hf : f_X9_ask_b22 x1 x2 s0 M = some z) : V l g (wC b) m_X9_ask 22 [(0, .ref (b + 0)), (1, .int x1), (2, .int x2)] [.int s0] M (some (.int z.1)) z.2 := by
  unfold f_X9_ask_b22 at hf
  refine V_istore_n (Y := m_X9_ask) (pc := 22) [(3, .int s0), (0, .ref (b + 0)), (1, .int x1), (2, .int x2)] dX9_ask_22 (by decide +kernel) rfl ?_
  refine V_iload_n (Y := m_X9_ask) (pc := 23) 0 dX9_ask_23 rfl ?_
  refine V_if_eq (Y := m_X9_ask) (pc := 24) (tgt := 29) dX9_ask_24 (by decide +kernel) hf (fun hf => ?_) (fun hf => ?_)
  · refine V_aload_n (Y := m_X9_ask) (pc := 29) 1 dX9_ask_29 rfl ?_
    refine V_grL (Y := m_X9_ask) (pc := 30) (x := 15) 7 kX9 sC_0 (by decide +kernel) rfl rfl tw_436 dX9_ask_30 ?_
    refine V_iload_n (Y := m_X9_ask) (pc := 33) 2 dX9_ask_33 rfl ?_
    obtain ⟨hi1, hf⟩ := g_if hf
    refine V_aald (Y := m_X9_ask) (pc := 34) 4 rfl sC_15 hi1 dX9_ask_34 ?_
    refine V_gi (Y := m_X9_ask) (pc := 35) 1 kX7 (wtC.2 _ _ _ sC_15 _ (ixb_lt hi1)) (by decide +kernel) rfl tw_415 dX9_ask_35 ?_
    refine V_istore (Y := m_X9_ask) (pc := 38) [(4, .int (M (rfC 15 (ix x1)) 1)), (3, .int s0), (0, .ref (b + 0)), (1, .int x1), (2, .int x2)] dX9_ask_38 (by decide +kernel) rfl ?_
    refine V_iload (Y := m_X9_ask) (pc := 40) 0 dX9_ask_40 rfl ?_
    refine V_iload_n (Y := m_X9_ask) (pc := 42) 4 dX9_ask_42 rfl ?_
    obtain ⟨q2, hq2, hf⟩ := g_bind hf
    refine V_cSi (Y := m_X9_ask) (pc := 43) (As := [.int (M (rfC 15 (ix x1)) 1), .int x2]) yf_X9_isUnder (by decide +kernel) (ok_X9_isUnder (M (rfC 15 (ix x1)) 1) x2 M _  hq2) tw_555 tw_554 rfl rfl (Nat.le_of_ble_eq_true rfl) dX9_ask_43 ?_
    refine V_if_eq (Y := m_X9_ask) (pc := 46) (tgt := 57) dX9_ask_46 (by decide +kernel) hf (fun hf => ?_) (fun hf => ?_)
    · refine V_ldc (Y := m_X9_ask) (pc := 57) (x := (-1000000012 : Int32)) dX9_ask_57 tw_557 ?_
      obtain rfl := Option.some.inj hf
      exact V_iret (Y := m_X9_ask) rfl dX9_ask_59
    · refine V_iload (Y := m_X9_ask) (pc := 49) 0 dX9_ask_49 rfl ?_
      obtain ⟨q3, hq3, hf⟩ := g_bind hf
      refine V_cSi (Y := m_X9_ask) (pc := 51) (As := [.int (M (rfC 15 (ix x1)) 1)]) yf_X9_worthOf (by decide +kernel) (ok_X9_worthOf (M (rfC 15 (ix x1)) 1) q2.2 _  hq3) tw_545 tw_544 rfl rfl (Nat.le_of_ble_eq_true rfl) dX9_ask_51 ?_
      refine V_goto (Y := m_X9_ask) (pc := 54) (tgt := 59) dX9_ask_54 (by decide +kernel) ?_
      obtain rfl := Option.some.inj hf
      exact V_iret (Y := m_X9_ask) rfl dX9_ask_59
  · refine V_iload_n (Y := m_X9_ask) (pc := 27) 0 dX9_ask_27 rfl ?_
    obtain rfl := Option.some.inj hf
    exact V_iret (Y := m_X9_ask) rfl dX9_ask_28
def f_X9_ask_b0  (x1 : Int32) (x2 : Int32) (M : Mem) : Option (Int32 × Mem) :=
  (f_X9_isBelow x2 (8 : Int32) M).bind fun q1 =>
  if q1.1 = 0 then
    f_X9_ask_b22  x1 x2 (-1000000001 : Int32) q1.2
  else
    (f_X9_lackOf x1 (1 : Int32) q1.2).bind fun q2 =>
    f_X9_ask_b22  x1 x2 q2.1 q2.2
set_option maxRecDepth 20000 in
set_option maxHeartbeats 4000000 in
theorem ok_X9_ask_b0 {l : Launch} {g : Gam} {b : Nat}   (x1 : Int32) (x2 : Int32) (M : Mem) (z : Int32 × Mem)  (hf : f_X9_ask_b0 x1 x2 M = some z) : V l g (wC b) m_X9_ask 0 [(0, .ref (b + 0)), (1, .int x1), (2, .int x2)] [] M (some (.int z.1)) z.2 := by
  unfold f_X9_ask_b0 at hf
  refine V_iload_n (Y := m_X9_ask) (pc := 0) 2 dX9_ask_0 rfl ?_
  refine V_gsA (Y := m_X9_ask) (pc := 1) tw_470 dX9_ask_1 ?_
  refine V_alenA (Y := m_X9_ask) (pc := 4) dX9_ask_4 ?_
  obtain ⟨q1, hq1, hf⟩ := g_bind hf
  refine V_cSi (Y := m_X9_ask) (pc := 5) (As := [.int x2, .int (8 : Int32)]) yf_X9_isBelow (by decide +kernel) (ok_X9_isBelow x2 (8 : Int32) M _  hq1) tw_473 tw_472 rfl rfl (Nat.le_of_ble_eq_true rfl) dX9_ask_5 ?_
  refine V_if_eq (Y := m_X9_ask) (pc := 8) (tgt := 20) dX9_ask_8 (by decide +kernel) hf (fun hf => ?_) (fun hf => ?_)
  · refine V_ldc (Y := m_X9_ask) (pc := 20) (x := (-1000000001 : Int32)) dX9_ask_20 tw_481 ?_
    exact V_sub [0, 1, 2] rfl (ok_X9_ask_b22  x1 x2 (-1000000001 : Int32) q1.2 z  hf)
  · refine V_aload_n (Y := m_X9_ask) (pc := 11) 0 dX9_ask_11 rfl ?_
    refine V_iload_n (Y := m_X9_ask) (pc := 12) 1 dX9_ask_12 rfl ?_
    refine V_iconst (Y := m_X9_ask) (pc := 13) (x := (1 : Int32)) dX9_ask_13 (by decide +kernel) ?_
    obtain ⟨q2, hq2, hf⟩ := g_bind hf
    refine V_cVi (Y := m_X9_ask) (pc := 14) (As := [.int x1, .int (1 : Int32)]) yf_X9_lackOf kX9 sC_0 (by decide +kernel) (ok_X9_lackOf x1 (1 : Int32) q1.2 _  hq2) tw_1012 tw_16 tw_1010 rfl rfl (Nat.le_of_ble_eq_true rfl) dX9_ask_14 ?_
    refine V_goto (Y := m_X9_ask) (pc := 17) (tgt := 22) dX9_ask_17 (by decide +kernel) ?_
    exact V_sub [0, 1, 2] rfl (ok_X9_ask_b22  x1 x2 q2.1 q2.2 z  hf)
def f_X9_ask (x1 : Int32) (x2 : Int32) (M : Mem) : Option (Int32 × Mem) := f_X9_ask_b0 x1 x2 M
set_option maxRecDepth 20000 in
set_option maxHeartbeats 4000000 in
theorem ok_X9_ask {l : Launch} {g : Gam} {b : Nat} : ∀ (x1 : Int32) (x2 : Int32) (M : Mem) (z : Int32 × Mem), f_X9_ask x1 x2 M = some z → Cn l g (wC b) m_X9_ask [.ref (b + 0), .int x1, .int x2] M (some (.int z.1)) z.2 := fun x1 x2 M z  hf => Cn_of (by decide +kernel) (Nat.le_of_ble_eq_true rfl) (V_sub [0, 1, 2] rfl (ok_X9_ask_b0 x1 x2 M z  hf))

abbrev m_X9_item : Mth := (yX9_item, cX9_item, 5, some .int, 3)
theorem yf_X9_item : YF m_X9_item 2 := ⟨tw_1017, tw_65, by decide +kernel, by decide +kernel⟩
def f_X9_item_b0  (x1 : Int32) (x2 : Int32) (M : Mem) : Option (Int32 × Mem) :=
  (f_X9_lackOf x1 (2 : Int32) M).bind fun q1 =>
  if q1.1 = 0 then
    if ixb x1 5 = true then
    (f_X9_isBelow x2 (q1.2 (rfC (rfC 15 (ix x1)) 3) 1) q1.2).bind fun q3 =>
    if q3.1 = 0 then
      some ((-1000000013 : Int32), q3.2)
    else
      if ixb x2 24 = true then
      (f_X6_isFog (rfC (rfC 15 (ix x1)) 3) (q3.2 (rfC (rfC (rfC 15 (ix x1)) 3) 2) (ix x2)) q3.2).bind fun q5 =>
      if q5.1 = 0 then
        if ixb x2 24 = true then
        some ((q5.2 (rfC (rfC (rfC 15 (ix x1)) 3) 2) (ix x2)), q5.2)
        else none
      else
        some ((-1000000012 : Int32), q5.2)
      else none
    else none
  else
    some (q1.1, q1.2)
set_option maxRecDepth 20000 in
set_option maxHeartbeats 4000000 in
theorem ok_X9_item_b0 {l : Launch} {g : Gam} {b : Nat}   (x1 : Int32) (x2 : Int32) (M : Mem) (z : Int32 × Mem)  (hf : f_X9_item_b0 x1 x2 M = some z) : V l g (wC b) m_X9_item 0 [(0, .ref (b + 0)), (1, .int x1), (2, .int x2)] [] M (some (.int z.1)) z.2 := by
  unfold f_X9_item_b0 at hf
  refine V_aload_n (Y := m_X9_item) (pc := 0) 0 dX9_item_0 rfl ?_
  refine V_iload_n (Y := m_X9_item) (pc := 1) 1 dX9_item_1 rfl ?_
  refine V_iconst (Y := m_X9_item) (pc := 2) (x := (2 : Int32)) dX9_item_2 (by decide +kernel) ?_
  obtain ⟨q1, hq1, hf⟩ := g_bind hf
  refine V_cVi (Y := m_X9_item) (pc := 3) (As := [.int x1, .int (2 : Int32)]) yf_X9_lackOf kX9 sC_0 (by decide +kernel) (ok_X9_lackOf x1 (2 : Int32) M _  hq1) tw_1012 tw_16 tw_1010 rfl rfl (Nat.le_of_ble_eq_true rfl) dX9_item_3 ?_
  refine V_istore_n (Y := m_X9_item) (pc := 6) [(3, .int q1.1), (0, .ref (b + 0)), (1, .int x1), (2, .int x2)] dX9_item_6 (by decide +kernel) rfl ?_
  refine V_iload_n (Y := m_X9_item) (pc := 7) 0 dX9_item_7 rfl ?_
  refine V_if_eq (Y := m_X9_item) (pc := 8) (tgt := 13) dX9_item_8 (by decide +kernel) hf (fun hf => ?_) (fun hf => ?_)
  · refine V_aload_n (Y := m_X9_item) (pc := 13) 1 dX9_item_13 rfl ?_
    refine V_grL (Y := m_X9_item) (pc := 14) (x := 15) 7 kX9 sC_0 (by decide +kernel) rfl rfl tw_436 dX9_item_14 ?_
    refine V_iload_n (Y := m_X9_item) (pc := 17) 2 dX9_item_17 rfl ?_
    obtain ⟨hi2, hf⟩ := g_if hf
    refine V_aald (Y := m_X9_item) (pc := 18) 4 rfl sC_15 hi2 dX9_item_18 ?_
    refine V_gr (Y := m_X9_item) (pc := 19) 3 kX7 (wtC.2 _ _ _ sC_15 _ (ixb_lt hi2)) (by decide +kernel) rfl tw_419 dX9_item_19 ?_
    refine V_astore (Y := m_X9_item) (pc := 22) [(4, .ref (b + (rfC (rfC 15 (ix x1)) 3))), (3, .int q1.1), (0, .ref (b + 0)), (1, .int x1), (2, .int x2)] dX9_item_22 (by decide +kernel) rfl ?_
    refine V_iload_n (Y := m_X9_item) (pc := 24) 4 dX9_item_24 rfl ?_
    refine V_aload (Y := m_X9_item) (pc := 25) 0 dX9_item_25 rfl ?_
    refine V_gi (Y := m_X9_item) (pc := 27) 1 kX6 (wtC.1 _ _ (wtC.2 _ _ _ sC_15 _ (ixb_lt hi2)) 3 _ rfl) (by decide +kernel) rfl tw_395 dX9_item_27 ?_
    obtain ⟨q3, hq3, hf⟩ := g_bind hf
    refine V_cSi (Y := m_X9_item) (pc := 30) (As := [.int x2, .int (q1.2 (rfC (rfC 15 (ix x1)) 3) 1)]) yf_X9_isBelow (by decide +kernel) (ok_X9_isBelow x2 (q1.2 (rfC (rfC 15 (ix x1)) 3) 1) q1.2 _  hq3) tw_473 tw_472 rfl rfl (Nat.le_of_ble_eq_true rfl) dX9_item_30 ?_
    refine V_if_ne (Y := m_X9_item) (pc := 33) (tgt := 40) dX9_item_33 (by decide +kernel) hf (fun hf => ?_) (fun hf => ?_)
    · refine V_aload (Y := m_X9_item) (pc := 40) 0 dX9_item_40 rfl ?_
      refine V_aload (Y := m_X9_item) (pc := 42) 0 dX9_item_42 rfl ?_
      refine V_gr (Y := m_X9_item) (pc := 44) 2 kX6 (wtC.1 _ _ (wtC.2 _ _ _ sC_15 _ (ixb_lt hi2)) 3 _ rfl) (by decide +kernel) rfl tw_397 dX9_item_44 ?_
      refine V_iload_n (Y := m_X9_item) (pc := 47) 4 dX9_item_47 rfl ?_
      obtain ⟨hi4, hf⟩ := g_if hf
      refine V_iald (Y := m_X9_item) (pc := 48) (wtC.1 _ _ (wtC.1 _ _ (wtC.2 _ _ _ sC_15 _ (ixb_lt hi2)) 3 _ rfl) 2 _ rfl) hi4 dX9_item_48 ?_
      obtain ⟨q5, hq5, hf⟩ := g_bind hf
      refine V_cVi (Y := m_X9_item) (pc := 49) (As := [.int (q3.2 (rfC (rfC (rfC 15 (ix x1)) 3) 2) (ix x2))]) yf_X6_isFog kX6 (wtC.1 _ _ (wtC.2 _ _ _ sC_15 _ (ixb_lt hi2)) 3 _ rfl) (by decide +kernel) (ok_X6_isFog (rfC (rfC 15 (ix x1)) 3) (q3.2 (rfC (rfC (rfC 15 (ix x1)) 3) 2) (ix x2)) q3.2 _ (wtC.1 _ _ (wtC.2 _ _ _ sC_15 _ (ixb_lt hi2)) 3 _ rfl) hq5) tw_893 tw_894 tw_1018 rfl rfl (Nat.le_of_ble_eq_true rfl) dX9_item_49 ?_
      refine V_if_eq (Y := m_X9_item) (pc := 52) (tgt := 60) dX9_item_52 (by decide +kernel) hf (fun hf => ?_) (fun hf => ?_)
      · refine V_aload (Y := m_X9_item) (pc := 60) 0 dX9_item_60 rfl ?_
        refine V_gr (Y := m_X9_item) (pc := 62) 2 kX6 (wtC.1 _ _ (wtC.2 _ _ _ sC_15 _ (ixb_lt hi2)) 3 _ rfl) (by decide +kernel) rfl tw_397 dX9_item_62 ?_
        refine V_iload_n (Y := m_X9_item) (pc := 65) 4 dX9_item_65 rfl ?_
        obtain ⟨hi6, hf⟩ := g_if hf
        refine V_iald (Y := m_X9_item) (pc := 66) (wtC.1 _ _ (wtC.1 _ _ (wtC.2 _ _ _ sC_15 _ (ixb_lt hi2)) 3 _ rfl) 2 _ rfl) hi6 dX9_item_66 ?_
        obtain rfl := Option.some.inj hf
        exact V_iret (Y := m_X9_item) rfl dX9_item_67
      · refine V_ldc (Y := m_X9_item) (pc := 55) (x := (-1000000012 : Int32)) dX9_item_55 tw_557 ?_
        refine V_goto (Y := m_X9_item) (pc := 57) (tgt := 67) dX9_item_57 (by decide +kernel) ?_
        obtain rfl := Option.some.inj hf
        exact V_iret (Y := m_X9_item) rfl dX9_item_67
    · refine V_ldcw (Y := m_X9_item) (pc := 36) (x := (-1000000013 : Int32)) dX9_item_36 tw_976 ?_
      obtain rfl := Option.some.inj hf
      exact V_iret (Y := m_X9_item) rfl dX9_item_39
  · refine V_iload_n (Y := m_X9_item) (pc := 11) 0 dX9_item_11 rfl ?_
    obtain rfl := Option.some.inj hf
    exact V_iret (Y := m_X9_item) rfl dX9_item_12
def f_X9_item (x1 : Int32) (x2 : Int32) (M : Mem) : Option (Int32 × Mem) := f_X9_item_b0 x1 x2 M
set_option maxRecDepth 20000 in
set_option maxHeartbeats 4000000 in
theorem ok_X9_item {l : Launch} {g : Gam} {b : Nat} : ∀ (x1 : Int32) (x2 : Int32) (M : Mem) (z : Int32 × Mem), f_X9_item x1 x2 M = some z → Cn l g (wC b) m_X9_item [.ref (b + 0), .int x1, .int x2] M (some (.int z.1)) z.2 := fun x1 x2 M z  hf => Cn_of (by decide +kernel) (Nat.le_of_ble_eq_true rfl) (V_sub [0, 1, 2] rfl (ok_X9_item_b0 x1 x2 M z  hf))

abbrev m_X9_rest : Mth := (yX9_rest, cX9_rest, 4, some .int, 3)
theorem yf_X9_rest : YF m_X9_rest 2 := ⟨tw_1022, tw_65, by decide +kernel, by decide +kernel⟩
def f_X9_rest_b0  (x1 : Int32) (x2 : Int32) (M : Mem) : Option (Int32 × Mem) :=
  (f_X9_lackOf x1 (3 : Int32) M).bind fun q1 =>
  if q1.1 = 0 then
    if x2 = 0 then
      some ((-1000000002 : Int32), q1.2)
    else
      if ixb x1 5 = true then
      if x2 = 0 then none else
      some ((irem (q1.2 (rfC 15 (ix x1)) 2) x2), q1.2)
      else none
  else
    some (q1.1, q1.2)
set_option maxRecDepth 20000 in
set_option maxHeartbeats 4000000 in
theorem ok_X9_rest_b0 {l : Launch} {g : Gam} {b : Nat}   (x1 : Int32) (x2 : Int32) (M : Mem) (z : Int32 × Mem)  (hf : f_X9_rest_b0 x1 x2 M = some z) : V l g (wC b) m_X9_rest 0 [(0, .ref (b + 0)), (1, .int x1), (2, .int x2)] [] M (some (.int z.1)) z.2 := by
  unfold f_X9_rest_b0 at hf
  refine V_aload_n (Y := m_X9_rest) (pc := 0) 0 dX9_rest_0 rfl ?_
  refine V_iload_n (Y := m_X9_rest) (pc := 1) 1 dX9_rest_1 rfl ?_
  refine V_iconst (Y := m_X9_rest) (pc := 2) (x := (3 : Int32)) dX9_rest_2 (by decide +kernel) ?_
  obtain ⟨q1, hq1, hf⟩ := g_bind hf
  refine V_cVi (Y := m_X9_rest) (pc := 3) (As := [.int x1, .int (3 : Int32)]) yf_X9_lackOf kX9 sC_0 (by decide +kernel) (ok_X9_lackOf x1 (3 : Int32) M _  hq1) tw_1012 tw_16 tw_1010 rfl rfl (Nat.le_of_ble_eq_true rfl) dX9_rest_3 ?_
  refine V_istore_n (Y := m_X9_rest) (pc := 6) [(3, .int q1.1), (0, .ref (b + 0)), (1, .int x1), (2, .int x2)] dX9_rest_6 (by decide +kernel) rfl ?_
  refine V_iload_n (Y := m_X9_rest) (pc := 7) 0 dX9_rest_7 rfl ?_
  refine V_if_eq (Y := m_X9_rest) (pc := 8) (tgt := 13) dX9_rest_8 (by decide +kernel) hf (fun hf => ?_) (fun hf => ?_)
  · refine V_iload_n (Y := m_X9_rest) (pc := 13) 3 dX9_rest_13 rfl ?_
    refine V_if_ne (Y := m_X9_rest) (pc := 14) (tgt := 22) dX9_rest_14 (by decide +kernel) hf (fun hf => ?_) (fun hf => ?_)
    · refine V_aload_n (Y := m_X9_rest) (pc := 22) 1 dX9_rest_22 rfl ?_
      refine V_grL (Y := m_X9_rest) (pc := 23) (x := 15) 7 kX9 sC_0 (by decide +kernel) rfl rfl tw_436 dX9_rest_23 ?_
      refine V_iload_n (Y := m_X9_rest) (pc := 26) 2 dX9_rest_26 rfl ?_
      obtain ⟨hi2, hf⟩ := g_if hf
      refine V_aald (Y := m_X9_rest) (pc := 27) 4 rfl sC_15 hi2 dX9_rest_27 ?_
      refine V_gi (Y := m_X9_rest) (pc := 28) 2 kX7 (wtC.2 _ _ _ sC_15 _ (ixb_lt hi2)) (by decide +kernel) rfl tw_417 dX9_rest_28 ?_
      refine V_iload_n (Y := m_X9_rest) (pc := 31) 3 dX9_rest_31 rfl ?_
      obtain ⟨hc3, hf⟩ := g_ifn hf
      refine V_irem (Y := m_X9_rest) (pc := 32) dX9_rest_32 hc3 ?_
      obtain rfl := Option.some.inj hf
      exact V_iret (Y := m_X9_rest) rfl dX9_rest_33
    · refine V_ldc (Y := m_X9_rest) (pc := 17) (x := (-1000000002 : Int32)) dX9_rest_17 tw_772 ?_
      refine V_goto (Y := m_X9_rest) (pc := 19) (tgt := 33) dX9_rest_19 (by decide +kernel) ?_
      obtain rfl := Option.some.inj hf
      exact V_iret (Y := m_X9_rest) rfl dX9_rest_33
  · refine V_iload_n (Y := m_X9_rest) (pc := 11) 0 dX9_rest_11 rfl ?_
    obtain rfl := Option.some.inj hf
    exact V_iret (Y := m_X9_rest) rfl dX9_rest_12
def f_X9_rest (x1 : Int32) (x2 : Int32) (M : Mem) : Option (Int32 × Mem) := f_X9_rest_b0 x1 x2 M
set_option maxRecDepth 20000 in
set_option maxHeartbeats 4000000 in
theorem ok_X9_rest {l : Launch} {g : Gam} {b : Nat} : ∀ (x1 : Int32) (x2 : Int32) (M : Mem) (z : Int32 × Mem), f_X9_rest x1 x2 M = some z → Cn l g (wC b) m_X9_rest [.ref (b + 0), .int x1, .int x2] M (some (.int z.1)) z.2 := fun x1 x2 M z  hf => Cn_of (by decide +kernel) (Nat.le_of_ble_eq_true rfl) (V_sub [0, 1, 2] rfl (ok_X9_rest_b0 x1 x2 M z  hf))

abbrev m_X9_tell : Mth := (yX9_tell, cX9_tell, 2, some .int, 1)
theorem yf_X9_tell : YF m_X9_tell 1 := ⟨tw_1026, tw_65, by decide +kernel, by decide +kernel⟩
def f_X9_tell_b0  (x1 : Int32) (M : Mem) : Option (Int32 × Mem) :=
  if (M 0 10) < (60 : Int32) then
    if ixb (M 0 10) 60 = true then
    some (((mset (mset M 17 (ix (M 0 10)) x1) 0 10 (((mset M 17 (ix (M 0 10)) x1) 0 10) + (1 : Int32))) 0 10), (mset (mset M 17 (ix (M 0 10)) x1) 0 10 (((mset M 17 (ix (M 0 10)) x1) 0 10) + (1 : Int32))))
    else none
  else
    some ((-1000000003 : Int32), M)
set_option maxRecDepth 20000 in
set_option maxHeartbeats 4000000 in
theorem ok_X9_tell_b0 {l : Launch} {g : Gam} {b : Nat}   (x1 : Int32) (M : Mem) (z : Int32 × Mem)  (hf : f_X9_tell_b0 x1 M = some z) : V l g (wC b) m_X9_tell 0 [(0, .ref (b + 0)), (1, .int x1)] [] M (some (.int z.1)) z.2 := by
  unfold f_X9_tell_b0 at hf
  refine V_aload_n (Y := m_X9_tell) (pc := 0) 0 dX9_tell_0 rfl ?_
  refine V_gi (Y := m_X9_tell) (pc := 1) 10 kX9 sC_0 (by decide +kernel) rfl tw_439 dX9_tell_1 ?_
  refine V_bipush (Y := m_X9_tell) (pc := 4) (x := (60 : Int32)) dX9_tell_4 (by decide +kernel) ?_
  refine V_icmp_lt (Y := m_X9_tell) (pc := 6) (tgt := 12) dX9_tell_6 (by decide +kernel) hf (fun hf => ?_) (fun hf => ?_)
  · refine V_aload_n (Y := m_X9_tell) (pc := 12) 0 dX9_tell_12 rfl ?_
    refine V_grL (Y := m_X9_tell) (pc := 13) (x := 17) 9 kX9 sC_0 (by decide +kernel) rfl rfl tw_438 dX9_tell_13 ?_
    refine V_aload_n (Y := m_X9_tell) (pc := 16) 0 dX9_tell_16 rfl ?_
    refine V_gi (Y := m_X9_tell) (pc := 17) 10 kX9 sC_0 (by decide +kernel) rfl tw_439 dX9_tell_17 ?_
    refine V_iload_n (Y := m_X9_tell) (pc := 20) 1 dX9_tell_20 rfl ?_
    obtain ⟨hi1, hf⟩ := g_if hf
    refine V_iast (Y := m_X9_tell) (pc := 21) sC_17 hi1 dX9_tell_21 ?_
    refine V_aload_n (Y := m_X9_tell) (pc := 22) 0 dX9_tell_22 rfl ?_
    refine V_dup (Y := m_X9_tell) (pc := 23) dX9_tell_23 rfl ?_
    refine V_gi (Y := m_X9_tell) (pc := 24) 10 kX9 sC_0 (by decide +kernel) rfl tw_439 dX9_tell_24 ?_
    refine V_iconst (Y := m_X9_tell) (pc := 27) (x := (1 : Int32)) dX9_tell_27 (by decide +kernel) ?_
    refine V_iadd (Y := m_X9_tell) (pc := 28) dX9_tell_28 ?_
    refine V_pi (Y := m_X9_tell) (pc := 29) 10 kX9 sC_0 (by decide +kernel) rfl rfl rfl tw_439 dX9_tell_29 ?_
    refine V_aload_n (Y := m_X9_tell) (pc := 32) 0 dX9_tell_32 rfl ?_
    refine V_gi (Y := m_X9_tell) (pc := 33) 10 kX9 sC_0 (by decide +kernel) rfl tw_439 dX9_tell_33 ?_
    obtain rfl := Option.some.inj hf
    exact V_iret (Y := m_X9_tell) rfl dX9_tell_36
  · refine V_ldc (Y := m_X9_tell) (pc := 9) (x := (-1000000003 : Int32)) dX9_tell_9 tw_482 ?_
    obtain rfl := Option.some.inj hf
    exact V_iret (Y := m_X9_tell) rfl dX9_tell_11
def f_X9_tell (x1 : Int32) (M : Mem) : Option (Int32 × Mem) := f_X9_tell_b0 x1 M
set_option maxRecDepth 20000 in
set_option maxHeartbeats 4000000 in
theorem ok_X9_tell {l : Launch} {g : Gam} {b : Nat} : ∀ (x1 : Int32) (M : Mem) (z : Int32 × Mem), f_X9_tell x1 M = some z → Cn l g (wC b) m_X9_tell [.ref (b + 0), .int x1] M (some (.int z.1)) z.2 := fun x1 M z  hf => Cn_of (by decide +kernel) (Nat.le_of_ble_eq_true rfl) (V_sub [0, 1] rfl (ok_X9_tell_b0 x1 M z  hf))

abbrev m_X9_check : Mth := (yX9_check, cX9_check, 6, some .int, 3)
theorem yf_X9_check : YF m_X9_check 2 := ⟨tw_1030, tw_65, by decide +kernel, by decide +kernel⟩
def f_X9_check_b98  (x5 : Int32) (M : Mem) : Option (Int32 × Mem) :=
  some (((1 : Int32) + x5), M)
set_option maxRecDepth 20000 in
set_option maxHeartbeats 4000000 in
theorem ok_X9_check_b98 {l : Launch} {g : Gam} {b : Nat}   (x5 : Int32) (M : Mem) (z : Int32 × Mem)  (hf : f_X9_check_b98 x5 M = some z) : V l g (wC b) m_X9_check 98 [(5, .int x5)] [] M (some (.int z.1)) z.2 := by
  unfold f_X9_check_b98 at hf
  refine V_iconst (Y := m_X9_check) (pc := 98) (x := (1 : Int32)) dX9_check_98 (by decide +kernel) ?_
  refine V_iload (Y := m_X9_check) (pc := 99) 0 dX9_check_99 rfl ?_
  refine V_iadd (Y := m_X9_check) (pc := 101) dX9_check_101 ?_
  obtain rfl := Option.some.inj hf
  exact V_iret (Y := m_X9_check) rfl dX9_check_102
def f_X9_check_b0  (x1 : Int32) (x2 : Int32) (M : Mem) : Option (Int32 × Mem) :=
  (f_X9_isWithin x1 (1 : Int32) (20 : Int32) (mset M 0 10 (0 : Int32))).bind fun q1 =>
  if q1.1 = 0 then
    some ((-1000000001 : Int32), q1.2)
  else
    (f_X9_isWithin x2 (0 : Int32) (200 : Int32) q1.2).bind fun q2 =>
    if q2.1 = 0 then
      some ((-1000000001 : Int32), q2.2)
    else
      if (q2.2 0 11) = 0 then
        some ((-1000000002 : Int32), q2.2)
      else
        (f_X0_surveyedInAll 80 q2.2).bind fun q3 =>
        if (x1 * q3.1) ≤ (60 : Int32) then
          (f_X0_rightSights 80 17 (M 0 10) x1 x2 q3.2).bind fun q4 =>
          if q4.1 = (x1 * q3.1) then
            if q4.1 = (M 0 10) then
              some ((0 : Int32), q4.2)
            else
              f_X9_check_b98  q4.1 q4.2
          else
            f_X9_check_b98  q4.1 q4.2
        else
          some ((-1000000003 : Int32), q3.2)
set_option maxRecDepth 20000 in
set_option maxHeartbeats 4000000 in
theorem ok_X9_check_b0 {l : Launch} {g : Gam} {b : Nat}   (x1 : Int32) (x2 : Int32) (M : Mem) (z : Int32 × Mem)  (hf : f_X9_check_b0 x1 x2 M = some z) : V l g (wC b) m_X9_check 0 [(0, .ref (b + 0)), (1, .int x1), (2, .int x2)] [] M (some (.int z.1)) z.2 := by
  unfold f_X9_check_b0 at hf
  refine V_aload_n (Y := m_X9_check) (pc := 0) 0 dX9_check_0 rfl ?_
  refine V_gi (Y := m_X9_check) (pc := 1) 10 kX9 sC_0 (by decide +kernel) rfl tw_439 dX9_check_1 ?_
  refine V_istore_n (Y := m_X9_check) (pc := 4) [(3, .int (M 0 10)), (0, .ref (b + 0)), (1, .int x1), (2, .int x2)] dX9_check_4 (by decide +kernel) rfl ?_
  refine V_aload_n (Y := m_X9_check) (pc := 5) 1 dX9_check_5 rfl ?_
  refine V_iconst (Y := m_X9_check) (pc := 6) (x := (0 : Int32)) dX9_check_6 (by decide +kernel) ?_
  refine V_pi (Y := m_X9_check) (pc := 7) 10 kX9 sC_0 (by decide +kernel) rfl rfl rfl tw_439 dX9_check_7 ?_
  refine V_iload_n (Y := m_X9_check) (pc := 10) 2 dX9_check_10 rfl ?_
  refine V_iconst (Y := m_X9_check) (pc := 11) (x := (1 : Int32)) dX9_check_11 (by decide +kernel) ?_
  refine V_bipush (Y := m_X9_check) (pc := 12) (x := (20 : Int32)) dX9_check_12 (by decide +kernel) ?_
  obtain ⟨q1, hq1, hf⟩ := g_bind hf
  refine V_cSi (Y := m_X9_check) (pc := 14) (As := [.int x1, .int (1 : Int32), .int (20 : Int32)]) yf_X9_isWithin (by decide +kernel) (ok_X9_isWithin x1 (1 : Int32) (20 : Int32) (mset M 0 10 (0 : Int32)) _  hq1) tw_479 tw_478 rfl rfl (Nat.le_of_ble_eq_true rfl) dX9_check_14 ?_
  refine V_if_eq (Y := m_X9_check) (pc := 17) (tgt := 31) dX9_check_17 (by decide +kernel) hf (fun hf => ?_) (fun hf => ?_)
  · refine V_ldc (Y := m_X9_check) (pc := 31) (x := (-1000000001 : Int32)) dX9_check_31 tw_481 ?_
    obtain rfl := Option.some.inj hf
    exact V_iret (Y := m_X9_check) rfl dX9_check_33
  · refine V_iload_n (Y := m_X9_check) (pc := 20) 3 dX9_check_20 rfl ?_
    refine V_iconst (Y := m_X9_check) (pc := 21) (x := (0 : Int32)) dX9_check_21 (by decide +kernel) ?_
    refine V_sipush (Y := m_X9_check) (pc := 22) (x := (200 : Int32)) dX9_check_22 (by decide +kernel) ?_
    obtain ⟨q2, hq2, hf⟩ := g_bind hf
    refine V_cSi (Y := m_X9_check) (pc := 25) (As := [.int x2, .int (0 : Int32), .int (200 : Int32)]) yf_X9_isWithin (by decide +kernel) (ok_X9_isWithin x2 (0 : Int32) (200 : Int32) q1.2 _  hq2) tw_479 tw_478 rfl rfl (Nat.le_of_ble_eq_true rfl) dX9_check_25 ?_
    refine V_if_ne (Y := m_X9_check) (pc := 28) (tgt := 34) dX9_check_28 (by decide +kernel) hf (fun hf => ?_) (fun hf => ?_)
    · refine V_aload_n (Y := m_X9_check) (pc := 34) 1 dX9_check_34 rfl ?_
      refine V_gi (Y := m_X9_check) (pc := 35) 11 kX9 sC_0 (by decide +kernel) rfl tw_440 dX9_check_35 ?_
      refine V_if_ne (Y := m_X9_check) (pc := 38) (tgt := 44) dX9_check_38 (by decide +kernel) hf (fun hf => ?_) (fun hf => ?_)
      · refine V_iload_n (Y := m_X9_check) (pc := 44) 2 dX9_check_44 rfl ?_
        refine V_aload_n (Y := m_X9_check) (pc := 45) 1 dX9_check_45 rfl ?_
        refine V_grL (Y := m_X9_check) (pc := 46) (x := 80) 2 kX9 sC_0 (by decide +kernel) rfl rfl tw_431 dX9_check_46 ?_
        obtain ⟨q3, hq3, hf⟩ := g_bind hf
        refine V_cVi (Y := m_X9_check) (pc := 49) (As := []) yf_X0_surveyedInAll kX0 sC_80 (by decide +kernel) (ok_X0_surveyedInAll 80 q2.2 _ sC_80 hq3) tw_1032 tw_1033 tw_1031 rfl rfl (Nat.le_of_ble_eq_true rfl) dX9_check_49 ?_
        refine V_imul (Y := m_X9_check) (pc := 52) dX9_check_52 ?_
        refine V_istore (Y := m_X9_check) (pc := 53) [(4, .int (x1 * q3.1)), (3, .int (M 0 10)), (0, .ref (b + 0)), (1, .int x1), (2, .int x2)] dX9_check_53 (by decide +kernel) rfl ?_
        refine V_iload (Y := m_X9_check) (pc := 55) 0 dX9_check_55 rfl ?_
        refine V_bipush (Y := m_X9_check) (pc := 57) (x := (60 : Int32)) dX9_check_57 (by decide +kernel) ?_
        refine V_icmp_le (Y := m_X9_check) (pc := 59) (tgt := 65) dX9_check_59 (by decide +kernel) hf (fun hf => ?_) (fun hf => ?_)
        · refine V_aload_n (Y := m_X9_check) (pc := 65) 2 dX9_check_65 rfl ?_
          refine V_grL (Y := m_X9_check) (pc := 66) (x := 80) 2 kX9 sC_0 (by decide +kernel) rfl rfl tw_431 dX9_check_66 ?_
          refine V_aload_n (Y := m_X9_check) (pc := 69) 2 dX9_check_69 rfl ?_
          refine V_grL (Y := m_X9_check) (pc := 70) (x := 17) 9 kX9 sC_0 (by decide +kernel) rfl rfl tw_438 dX9_check_70 ?_
          refine V_iload_n (Y := m_X9_check) (pc := 73) 1 dX9_check_73 rfl ?_
          refine V_iload_n (Y := m_X9_check) (pc := 74) 3 dX9_check_74 rfl ?_
          refine V_iload_n (Y := m_X9_check) (pc := 75) 4 dX9_check_75 rfl ?_
          obtain ⟨q4, hq4, hf⟩ := g_bind hf
          refine V_cVi (Y := m_X9_check) (pc := 76) (As := [.ref (b + 17), .int (M 0 10), .int x1, .int x2]) yf_X0_rightSights kX0 sC_80 (by decide +kernel) (ok_X0_rightSights 80 17 (M 0 10) x1 x2 q3.2 _ sC_80 sC_17 hq4) tw_1036 tw_1037 tw_1035 rfl rfl (Nat.le_of_ble_eq_true rfl) dX9_check_76 ?_
          refine V_istore (Y := m_X9_check) (pc := 79) [(5, .int q4.1), (4, .int (x1 * q3.1)), (3, .int (M 0 10)), (0, .ref (b + 0)), (1, .int x1), (2, .int x2)] dX9_check_79 (by decide +kernel) rfl ?_
          refine V_iload (Y := m_X9_check) (pc := 81) 0 dX9_check_81 rfl ?_
          refine V_iload (Y := m_X9_check) (pc := 83) 1 dX9_check_83 rfl ?_
          refine V_icmp_ne (Y := m_X9_check) (pc := 85) (tgt := 98) dX9_check_85 (by decide +kernel) hf (fun hf => ?_) (fun hf => ?_)
          · exact V_sub [0] rfl (ok_X9_check_b98  q4.1 q4.2 z  hf)
          · refine V_iload (Y := m_X9_check) (pc := 88) 0 dX9_check_88 rfl ?_
            refine V_iload_n (Y := m_X9_check) (pc := 90) 2 dX9_check_90 rfl ?_
            refine V_icmp_ne (Y := m_X9_check) (pc := 91) (tgt := 98) dX9_check_91 (by decide +kernel) hf (fun hf => ?_) (fun hf => ?_)
            · exact V_sub [0] rfl (ok_X9_check_b98  q4.1 q4.2 z  hf)
            · refine V_iconst (Y := m_X9_check) (pc := 94) (x := (0 : Int32)) dX9_check_94 (by decide +kernel) ?_
              refine V_goto (Y := m_X9_check) (pc := 95) (tgt := 102) dX9_check_95 (by decide +kernel) ?_
              obtain rfl := Option.some.inj hf
              exact V_iret (Y := m_X9_check) rfl dX9_check_102
        · refine V_ldc (Y := m_X9_check) (pc := 62) (x := (-1000000003 : Int32)) dX9_check_62 tw_482 ?_
          obtain rfl := Option.some.inj hf
          exact V_iret (Y := m_X9_check) rfl dX9_check_64
      · refine V_ldc (Y := m_X9_check) (pc := 41) (x := (-1000000002 : Int32)) dX9_check_41 tw_772 ?_
        obtain rfl := Option.some.inj hf
        exact V_iret (Y := m_X9_check) rfl dX9_check_43
    · refine V_ldc (Y := m_X9_check) (pc := 31) (x := (-1000000001 : Int32)) dX9_check_31 tw_481 ?_
      obtain rfl := Option.some.inj hf
      exact V_iret (Y := m_X9_check) rfl dX9_check_33
def f_X9_check (x1 : Int32) (x2 : Int32) (M : Mem) : Option (Int32 × Mem) := f_X9_check_b0 x1 x2 M
set_option maxRecDepth 20000 in
set_option maxHeartbeats 4000000 in
theorem ok_X9_check {l : Launch} {g : Gam} {b : Nat} : ∀ (x1 : Int32) (x2 : Int32) (M : Mem) (z : Int32 × Mem), f_X9_check x1 x2 M = some z → Cn l g (wC b) m_X9_check [.ref (b + 0), .int x1, .int x2] M (some (.int z.1)) z.2 := fun x1 x2 M z  hf => Cn_of (by decide +kernel) (Nat.le_of_ble_eq_true rfl) (V_sub [0, 1, 2] rfl (ok_X9_check_b0 x1 x2 M z  hf))

abbrev m_X9_keep : Mth := (yX9_keep, cX9_keep, 1, some .int, 3)
theorem yf_X9_keep : YF m_X9_keep 0 := ⟨tw_1042, tw_65, by decide +kernel, by decide +kernel⟩
def f_X9_keep_b0   (M : Mem) : Option (Int32 × Mem) :=
  (f_X0_takeFrom 80 48 M).bind fun q1 =>
  some (((mset q1.2 0 11 (1 : Int32)) 48 9), (mset q1.2 0 11 (1 : Int32)))
set_option maxRecDepth 20000 in
set_option maxHeartbeats 4000000 in
theorem ok_X9_keep_b0 {l : Launch} {g : Gam} {b : Nat}    (M : Mem) (z : Int32 × Mem)  (hf : f_X9_keep_b0  M = some z) : V l g (wC b) m_X9_keep 0 [(0, .ref (b + 0))] [] M (some (.int z.1)) z.2 := by
  unfold f_X9_keep_b0 at hf
  refine V_aload_n (Y := m_X9_keep) (pc := 0) 0 dX9_keep_0 rfl ?_
  refine V_grL (Y := m_X9_keep) (pc := 1) (x := 80) 2 kX9 sC_0 (by decide +kernel) rfl rfl tw_431 dX9_keep_1 ?_
  refine V_aload_n (Y := m_X9_keep) (pc := 4) 0 dX9_keep_4 rfl ?_
  refine V_grL (Y := m_X9_keep) (pc := 5) (x := 48) 1 kX9 sC_0 (by decide +kernel) rfl rfl tw_430 dX9_keep_5 ?_
  obtain ⟨q1, hq1, hf⟩ := g_bind hf
  refine V_cVv (Y := m_X9_keep) (pc := 8) (As := [.ref (b + 48)]) yf_X0_takeFrom kX0 sC_80 (by decide +kernel) (ok_X0_takeFrom 80 48 M _ sC_80 sC_48 hq1) tw_1044 tw_1045 tw_1043 rfl rfl (Nat.le_of_ble_eq_true rfl) dX9_keep_8 ?_
  refine V_aload_n (Y := m_X9_keep) (pc := 11) 0 dX9_keep_11 rfl ?_
  refine V_iconst (Y := m_X9_keep) (pc := 12) (x := (1 : Int32)) dX9_keep_12 (by decide +kernel) ?_
  refine V_pz (Y := m_X9_keep) (pc := 13) 11 kX9 sC_0 (by decide +kernel) rfl rfl rfl (by decide +kernel) tw_440 dX9_keep_13 ?_
  refine V_aload_n (Y := m_X9_keep) (pc := 16) 0 dX9_keep_16 rfl ?_
  refine V_grL (Y := m_X9_keep) (pc := 17) (x := 48) 1 kX9 sC_0 (by decide +kernel) rfl rfl tw_430 dX9_keep_17 ?_
  refine V_gi (Y := m_X9_keep) (pc := 20) 9 kX0 sC_48 (by decide +kernel) rfl tw_352 dX9_keep_20 ?_
  obtain rfl := Option.some.inj hf
  exact V_iret (Y := m_X9_keep) rfl dX9_keep_23
def f_X9_keep  (M : Mem) : Option (Int32 × Mem) := f_X9_keep_b0  M
set_option maxRecDepth 20000 in
set_option maxHeartbeats 4000000 in
theorem ok_X9_keep {l : Launch} {g : Gam} {b : Nat} : ∀  (M : Mem) (z : Int32 × Mem), f_X9_keep  M = some z → Cn l g (wC b) m_X9_keep [.ref (b + 0)] M (some (.int z.1)) z.2 := fun  M z  hf => Cn_of (by decide +kernel) (Nat.le_of_ble_eq_true rfl) (V_sub [0] rfl (ok_X9_keep_b0  M z  hf))

abbrev m_X9_back : Mth := (yX9_back, cX9_back, 1, some .int, 3)
theorem yf_X9_back : YF m_X9_back 0 := ⟨tw_1055, tw_65, by decide +kernel, by decide +kernel⟩
def f_X9_back_b0   (M : Mem) : Option (Int32 × Mem) :=
  if (M 0 11) = 0 then
    some ((-1000000002 : Int32), M)
  else
    (f_X0_takeFrom 48 80 M).bind fun q1 =>
    some ((q1.2 48 9), q1.2)
set_option maxRecDepth 20000 in
set_option maxHeartbeats 4000000 in
theorem ok_X9_back_b0 {l : Launch} {g : Gam} {b : Nat}    (M : Mem) (z : Int32 × Mem)  (hf : f_X9_back_b0  M = some z) : V l g (wC b) m_X9_back 0 [(0, .ref (b + 0))] [] M (some (.int z.1)) z.2 := by
  unfold f_X9_back_b0 at hf
  refine V_aload_n (Y := m_X9_back) (pc := 0) 0 dX9_back_0 rfl ?_
  refine V_gi (Y := m_X9_back) (pc := 1) 11 kX9 sC_0 (by decide +kernel) rfl tw_440 dX9_back_1 ?_
  refine V_if_ne (Y := m_X9_back) (pc := 4) (tgt := 10) dX9_back_4 (by decide +kernel) hf (fun hf => ?_) (fun hf => ?_)
  · refine V_aload_n (Y := m_X9_back) (pc := 10) 0 dX9_back_10 rfl ?_
    refine V_grL (Y := m_X9_back) (pc := 11) (x := 48) 1 kX9 sC_0 (by decide +kernel) rfl rfl tw_430 dX9_back_11 ?_
    refine V_aload_n (Y := m_X9_back) (pc := 14) 0 dX9_back_14 rfl ?_
    refine V_grL (Y := m_X9_back) (pc := 15) (x := 80) 2 kX9 sC_0 (by decide +kernel) rfl rfl tw_431 dX9_back_15 ?_
    obtain ⟨q1, hq1, hf⟩ := g_bind hf
    refine V_cVv (Y := m_X9_back) (pc := 18) (As := [.ref (b + 80)]) yf_X0_takeFrom kX0 sC_48 (by decide +kernel) (ok_X0_takeFrom 48 80 M _ sC_48 sC_80 hq1) tw_1044 tw_1045 tw_1043 rfl rfl (Nat.le_of_ble_eq_true rfl) dX9_back_18 ?_
    refine V_aload_n (Y := m_X9_back) (pc := 21) 0 dX9_back_21 rfl ?_
    refine V_grL (Y := m_X9_back) (pc := 22) (x := 48) 1 kX9 sC_0 (by decide +kernel) rfl rfl tw_430 dX9_back_22 ?_
    refine V_gi (Y := m_X9_back) (pc := 25) 9 kX0 sC_48 (by decide +kernel) rfl tw_352 dX9_back_25 ?_
    obtain rfl := Option.some.inj hf
    exact V_iret (Y := m_X9_back) rfl dX9_back_28
  · refine V_ldc (Y := m_X9_back) (pc := 7) (x := (-1000000002 : Int32)) dX9_back_7 tw_772 ?_
    obtain rfl := Option.some.inj hf
    exact V_iret (Y := m_X9_back) rfl dX9_back_9
def f_X9_back  (M : Mem) : Option (Int32 × Mem) := f_X9_back_b0  M
set_option maxRecDepth 20000 in
set_option maxHeartbeats 4000000 in
theorem ok_X9_back {l : Launch} {g : Gam} {b : Nat} : ∀  (M : Mem) (z : Int32 × Mem), f_X9_back  M = some z → Cn l g (wC b) m_X9_back [.ref (b + 0)] M (some (.int z.1)) z.2 := fun  M z  hf => Cn_of (by decide +kernel) (Nat.le_of_ble_eq_true rfl) (V_sub [0] rfl (ok_X9_back_b0  M z  hf))

abbrev m_X9_count : Mth := (yX9_count, cX9_count, 2, some .int, 2)
theorem yf_X9_count : YF m_X9_count 1 := ⟨tw_1059, tw_65, by decide +kernel, by decide +kernel⟩
def f_X9_count_b0  (x1 : Int32) (M : Mem) : Option (Int32 × Mem) :=
  if x1 = (0 : Int32) then
    some ((M 48 9), M)
  else
  if x1 = (1 : Int32) then
    (f_X0_marksPut 48 M).bind fun q3 =>
    some (q3.1, q3.2)
  else
  if x1 = (2 : Int32) then
    some ((M 48 10), M)
  else
  if x1 = (3 : Int32) then
    some ((M 48 11), M)
  else
  if x1 = (4 : Int32) then
    (f_X0_chosenInAll 48 M).bind fun q7 =>
    some (q7.1, q7.2)
  else
  if x1 = (5 : Int32) then
    (f_X0_surveyedInAll 48 M).bind fun q9 =>
    some (q9.1, q9.2)
  else
  if x1 = (6 : Int32) then
    some ((M 0 10), M)
  else
  if x1 = (7 : Int32) then
    some ((M 1 1), M)
  else
  if x1 = (8 : Int32) then
    some ((M 48 12), M)
  else
  some ((-1000000001 : Int32), M)
set_option maxRecDepth 20000 in
set_option maxHeartbeats 4000000 in
theorem ok_X9_count_b0 {l : Launch} {g : Gam} {b : Nat}   (x1 : Int32) (M : Mem) (z : Int32 × Mem)  (hf : f_X9_count_b0 x1 M = some z) : V l g (wC b) m_X9_count 0 [(0, .ref (b + 0)), (1, .int x1)] [] M (some (.int z.1)) z.2 := by
  unfold f_X9_count_b0 at hf
  refine V_iload_n (Y := m_X9_count) (pc := 0) 1 dX9_count_0 rfl ?_
  by_cases hc1 : x1 = (0 : Int32)
  · rw [if_pos hc1] at hf
    refine V_tsw (Y := m_X9_count) (pc := 1) (tgt := 52) (0 : Int32) hc1 dX9_count_1 (by decide +kernel) ?_
    refine V_aload_n (Y := m_X9_count) (pc := 52) 0 dX9_count_52 rfl ?_
    refine V_grL (Y := m_X9_count) (pc := 53) (x := 48) 1 kX9 sC_0 (by decide +kernel) rfl rfl tw_430 dX9_count_53 ?_
    refine V_gi (Y := m_X9_count) (pc := 56) 9 kX0 sC_48 (by decide +kernel) rfl tw_352 dX9_count_56 ?_
    obtain rfl := Option.some.inj hf
    exact V_iret (Y := m_X9_count) rfl dX9_count_59
  rw [if_neg hc1] at hf
  by_cases hc2 : x1 = (1 : Int32)
  · rw [if_pos hc2] at hf
    refine V_tsw (Y := m_X9_count) (pc := 1) (tgt := 60) (1 : Int32) hc2 dX9_count_1 (by decide +kernel) ?_
    refine V_aload_n (Y := m_X9_count) (pc := 60) 0 dX9_count_60 rfl ?_
    refine V_grL (Y := m_X9_count) (pc := 61) (x := 48) 1 kX9 sC_0 (by decide +kernel) rfl rfl tw_430 dX9_count_61 ?_
    obtain ⟨q3, hq3, hf⟩ := g_bind hf
    refine V_cVi (Y := m_X9_count) (pc := 64) (As := []) yf_X0_marksPut kX0 sC_48 (by decide +kernel) (ok_X0_marksPut 48 M _ sC_48 hq3) tw_1061 tw_1062 tw_1060 rfl rfl (Nat.le_of_ble_eq_true rfl) dX9_count_64 ?_
    obtain rfl := Option.some.inj hf
    exact V_iret (Y := m_X9_count) rfl dX9_count_67
  rw [if_neg hc2] at hf
  by_cases hc4 : x1 = (2 : Int32)
  · rw [if_pos hc4] at hf
    refine V_tsw (Y := m_X9_count) (pc := 1) (tgt := 68) (2 : Int32) hc4 dX9_count_1 (by decide +kernel) ?_
    refine V_aload_n (Y := m_X9_count) (pc := 68) 0 dX9_count_68 rfl ?_
    refine V_grL (Y := m_X9_count) (pc := 69) (x := 48) 1 kX9 sC_0 (by decide +kernel) rfl rfl tw_430 dX9_count_69 ?_
    refine V_gi (Y := m_X9_count) (pc := 72) 10 kX0 sC_48 (by decide +kernel) rfl tw_355 dX9_count_72 ?_
    obtain rfl := Option.some.inj hf
    exact V_iret (Y := m_X9_count) rfl dX9_count_75
  rw [if_neg hc4] at hf
  by_cases hc5 : x1 = (3 : Int32)
  · rw [if_pos hc5] at hf
    refine V_tsw (Y := m_X9_count) (pc := 1) (tgt := 76) (3 : Int32) hc5 dX9_count_1 (by decide +kernel) ?_
    refine V_aload_n (Y := m_X9_count) (pc := 76) 0 dX9_count_76 rfl ?_
    refine V_grL (Y := m_X9_count) (pc := 77) (x := 48) 1 kX9 sC_0 (by decide +kernel) rfl rfl tw_430 dX9_count_77 ?_
    refine V_gi (Y := m_X9_count) (pc := 80) 11 kX0 sC_48 (by decide +kernel) rfl tw_357 dX9_count_80 ?_
    obtain rfl := Option.some.inj hf
    exact V_iret (Y := m_X9_count) rfl dX9_count_83
  rw [if_neg hc5] at hf
  by_cases hc6 : x1 = (4 : Int32)
  · rw [if_pos hc6] at hf
    refine V_tsw (Y := m_X9_count) (pc := 1) (tgt := 84) (4 : Int32) hc6 dX9_count_1 (by decide +kernel) ?_
    refine V_aload_n (Y := m_X9_count) (pc := 84) 0 dX9_count_84 rfl ?_
    refine V_grL (Y := m_X9_count) (pc := 85) (x := 48) 1 kX9 sC_0 (by decide +kernel) rfl rfl tw_430 dX9_count_85 ?_
    obtain ⟨q7, hq7, hf⟩ := g_bind hf
    refine V_cVi (Y := m_X9_count) (pc := 88) (As := []) yf_X0_chosenInAll kX0 sC_48 (by decide +kernel) (ok_X0_chosenInAll 48 M _ sC_48 hq7) tw_778 tw_779 tw_777 rfl rfl (Nat.le_of_ble_eq_true rfl) dX9_count_88 ?_
    obtain rfl := Option.some.inj hf
    exact V_iret (Y := m_X9_count) rfl dX9_count_91
  rw [if_neg hc6] at hf
  by_cases hc8 : x1 = (5 : Int32)
  · rw [if_pos hc8] at hf
    refine V_tsw (Y := m_X9_count) (pc := 1) (tgt := 92) (5 : Int32) hc8 dX9_count_1 (by decide +kernel) ?_
    refine V_aload_n (Y := m_X9_count) (pc := 92) 0 dX9_count_92 rfl ?_
    refine V_grL (Y := m_X9_count) (pc := 93) (x := 48) 1 kX9 sC_0 (by decide +kernel) rfl rfl tw_430 dX9_count_93 ?_
    obtain ⟨q9, hq9, hf⟩ := g_bind hf
    refine V_cVi (Y := m_X9_count) (pc := 96) (As := []) yf_X0_surveyedInAll kX0 sC_48 (by decide +kernel) (ok_X0_surveyedInAll 48 M _ sC_48 hq9) tw_1032 tw_1033 tw_1031 rfl rfl (Nat.le_of_ble_eq_true rfl) dX9_count_96 ?_
    obtain rfl := Option.some.inj hf
    exact V_iret (Y := m_X9_count) rfl dX9_count_99
  rw [if_neg hc8] at hf
  by_cases hc10 : x1 = (6 : Int32)
  · rw [if_pos hc10] at hf
    refine V_tsw (Y := m_X9_count) (pc := 1) (tgt := 100) (6 : Int32) hc10 dX9_count_1 (by decide +kernel) ?_
    refine V_aload_n (Y := m_X9_count) (pc := 100) 0 dX9_count_100 rfl ?_
    refine V_gi (Y := m_X9_count) (pc := 101) 10 kX9 sC_0 (by decide +kernel) rfl tw_439 dX9_count_101 ?_
    obtain rfl := Option.some.inj hf
    exact V_iret (Y := m_X9_count) rfl dX9_count_104
  rw [if_neg hc10] at hf
  by_cases hc11 : x1 = (7 : Int32)
  · rw [if_pos hc11] at hf
    refine V_tsw (Y := m_X9_count) (pc := 1) (tgt := 105) (7 : Int32) hc11 dX9_count_1 (by decide +kernel) ?_
    refine V_aload_n (Y := m_X9_count) (pc := 105) 0 dX9_count_105 rfl ?_
    refine V_grL (Y := m_X9_count) (pc := 106) (x := 1) 0 kX9 sC_0 (by decide +kernel) rfl rfl tw_429 dX9_count_106 ?_
    refine V_gi (Y := m_X9_count) (pc := 109) 1 kX4 sC_1 (by decide +kernel) rfl tw_99 dX9_count_109 ?_
    obtain rfl := Option.some.inj hf
    exact V_iret (Y := m_X9_count) rfl dX9_count_112
  rw [if_neg hc11] at hf
  by_cases hc12 : x1 = (8 : Int32)
  · rw [if_pos hc12] at hf
    refine V_tsw (Y := m_X9_count) (pc := 1) (tgt := 113) (8 : Int32) hc12 dX9_count_1 (by decide +kernel) ?_
    refine V_aload_n (Y := m_X9_count) (pc := 113) 0 dX9_count_113 rfl ?_
    refine V_grL (Y := m_X9_count) (pc := 114) (x := 48) 1 kX9 sC_0 (by decide +kernel) rfl rfl tw_430 dX9_count_114 ?_
    refine V_gi (Y := m_X9_count) (pc := 117) 12 kX0 sC_48 (by decide +kernel) rfl tw_359 dX9_count_117 ?_
    obtain rfl := Option.some.inj hf
    exact V_iret (Y := m_X9_count) rfl dX9_count_120
  rw [if_neg hc12] at hf
  refine V_tswO (Y := m_X9_count) (pc := 1) (tgt := 121) [(0 : Int32), (1 : Int32), (2 : Int32), (3 : Int32), (4 : Int32), (5 : Int32), (6 : Int32), (7 : Int32), (8 : Int32)] (List.forall_mem_cons.mpr ⟨hc1, (List.forall_mem_cons.mpr ⟨hc2, (List.forall_mem_cons.mpr ⟨hc4, (List.forall_mem_cons.mpr ⟨hc5, (List.forall_mem_cons.mpr ⟨hc6, (List.forall_mem_cons.mpr ⟨hc8, (List.forall_mem_cons.mpr ⟨hc10, (List.forall_mem_cons.mpr ⟨hc11, (List.forall_mem_cons.mpr ⟨hc12, (fun _ h => absurd h List.not_mem_nil)⟩)⟩)⟩)⟩)⟩)⟩)⟩)⟩)⟩) dX9_count_1 (by decide +kernel) (by decide +kernel) ?_
  refine V_ldc (Y := m_X9_count) (pc := 121) (x := (-1000000001 : Int32)) dX9_count_121 tw_481 ?_
  obtain rfl := Option.some.inj hf
  exact V_iret (Y := m_X9_count) rfl dX9_count_123
def f_X9_count (x1 : Int32) (M : Mem) : Option (Int32 × Mem) := f_X9_count_b0 x1 M
set_option maxRecDepth 20000 in
set_option maxHeartbeats 4000000 in
theorem ok_X9_count {l : Launch} {g : Gam} {b : Nat} : ∀ (x1 : Int32) (M : Mem) (z : Int32 × Mem), f_X9_count x1 M = some z → Cn l g (wC b) m_X9_count [.ref (b + 0), .int x1] M (some (.int z.1)) z.2 := fun x1 M z  hf => Cn_of (by decide +kernel) (Nat.le_of_ble_eq_true rfl) (V_sub [0, 1] rfl (ok_X9_count_b0 x1 M z  hf))

abbrev m_X10_isIn : Mth := (yX10_isIn, cX10_isIn, 6, some .boolean, 1)
theorem yf_X10_isIn : YF m_X10_isIn 3 := ⟨tw_1219, tw_75, by decide +kernel, by decide +kernel⟩
def f_X10_isIn_b0  (y0 : Int64) (y2 : Int64) (y4 : Int64) (M : Mem) : Option (Int32 × Mem) :=
  if (lg_cmp y0 y2) < 0 then
    some ((0 : Int32), M)
  else
    if 0 < (lg_cmp y0 y4) then
      some ((0 : Int32), M)
    else
      some ((1 : Int32), M)
set_option maxRecDepth 20000 in
set_option maxHeartbeats 4000000 in
theorem ok_X10_isIn_b0 {l : Launch} {g : Gam} {b : Nat}   (y0 : Int64) (y2 : Int64) (y4 : Int64) (M : Mem) (z : Int32 × Mem)  (hf : f_X10_isIn_b0 y0 y2 y4 M = some z) : V l g (wM b) m_X10_isIn 0 [(0, .long y0), (2, .long y2), (4, .long y4)] [] M (some (.int z.1)) z.2 := by
  unfold f_X10_isIn_b0 at hf
  refine V_lload_n (Y := m_X10_isIn) (pc := 0) 0 dX10_isIn_0 rfl ?_
  refine V_lload_n (Y := m_X10_isIn) (pc := 1) 1 dX10_isIn_1 rfl ?_
  refine V_lcmp (Y := m_X10_isIn) (pc := 2) dX10_isIn_2 ?_
  refine V_if_lt (Y := m_X10_isIn) (pc := 3) (tgt := 17) dX10_isIn_3 (by decide +kernel) hf (fun hf => ?_) (fun hf => ?_)
  · refine V_iconst (Y := m_X10_isIn) (pc := 17) (x := (0 : Int32)) dX10_isIn_17 (by decide +kernel) ?_
    obtain rfl := Option.some.inj hf
    exact V_zret (Y := m_X10_isIn) z01_0 rfl dX10_isIn_18
  · refine V_lload_n (Y := m_X10_isIn) (pc := 6) 0 dX10_isIn_6 rfl ?_
    refine V_lload (Y := m_X10_isIn) (pc := 7) 2 dX10_isIn_7 rfl ?_
    refine V_lcmp (Y := m_X10_isIn) (pc := 9) dX10_isIn_9 ?_
    refine V_if_gt (Y := m_X10_isIn) (pc := 10) (tgt := 17) dX10_isIn_10 (by decide +kernel) hf (fun hf => ?_) (fun hf => ?_)
    · refine V_iconst (Y := m_X10_isIn) (pc := 17) (x := (0 : Int32)) dX10_isIn_17 (by decide +kernel) ?_
      obtain rfl := Option.some.inj hf
      exact V_zret (Y := m_X10_isIn) z01_0 rfl dX10_isIn_18
    · refine V_iconst (Y := m_X10_isIn) (pc := 13) (x := (1 : Int32)) dX10_isIn_13 (by decide +kernel) ?_
      refine V_goto (Y := m_X10_isIn) (pc := 14) (tgt := 18) dX10_isIn_14 (by decide +kernel) ?_
      obtain rfl := Option.some.inj hf
      exact V_zret (Y := m_X10_isIn) z01_1 rfl dX10_isIn_18
def f_X10_isIn (y0 : Int64) (y2 : Int64) (y4 : Int64) (M : Mem) : Option (Int32 × Mem) := f_X10_isIn_b0 y0 y2 y4 M
set_option maxRecDepth 20000 in
set_option maxHeartbeats 4000000 in
theorem ok_X10_isIn {l : Launch} {g : Gam} {b : Nat} : ∀ (y0 : Int64) (y2 : Int64) (y4 : Int64) (M : Mem) (z : Int32 × Mem), f_X10_isIn y0 y2 y4 M = some z → Cn l g (wM b) m_X10_isIn [.long y0, .long y2, .long y4] M (some (.int z.1)) z.2 := fun y0 y2 y4 M z  hf => Cn_of (by decide +kernel) (Nat.le_of_ble_eq_true rfl) (V_sub [0, 1, 2] rfl (ok_X10_isIn_b0 y0 y2 y4 M z  hf))

abbrev m_X10_orNone : Mth := (yX10_orNone, cX10_orNone, 1, some .int, 1)
theorem yf_X10_orNone : YF m_X10_orNone 1 := ⟨tw_1248, tw_75, by decide +kernel, by decide +kernel⟩
def f_X10_orNone_b0  (x0 : Int32) (M : Mem) : Option (Int32 × Mem) :=
  if 0 ≤ x0 then
    some (x0, M)
  else
    some ((-1000000005 : Int32), M)
set_option maxRecDepth 20000 in
set_option maxHeartbeats 4000000 in
theorem ok_X10_orNone_b0 {l : Launch} {g : Gam} {b : Nat}   (x0 : Int32) (M : Mem) (z : Int32 × Mem)  (hf : f_X10_orNone_b0 x0 M = some z) : V l g (wM b) m_X10_orNone 0 [(0, .int x0)] [] M (some (.int z.1)) z.2 := by
  unfold f_X10_orNone_b0 at hf
  refine V_iload_n (Y := m_X10_orNone) (pc := 0) 0 dX10_orNone_0 rfl ?_
  refine V_if_ge (Y := m_X10_orNone) (pc := 1) (tgt := 9) dX10_orNone_1 (by decide +kernel) hf (fun hf => ?_) (fun hf => ?_)
  · refine V_iload_n (Y := m_X10_orNone) (pc := 9) 0 dX10_orNone_9 rfl ?_
    obtain rfl := Option.some.inj hf
    exact V_iret (Y := m_X10_orNone) rfl dX10_orNone_10
  · refine V_ldc (Y := m_X10_orNone) (pc := 4) (x := (-1000000005 : Int32)) dX10_orNone_4 tw_1249 ?_
    refine V_goto (Y := m_X10_orNone) (pc := 6) (tgt := 10) dX10_orNone_6 (by decide +kernel) ?_
    obtain rfl := Option.some.inj hf
    exact V_iret (Y := m_X10_orNone) rfl dX10_orNone_10
def f_X10_orNone (x0 : Int32) (M : Mem) : Option (Int32 × Mem) := f_X10_orNone_b0 x0 M
set_option maxRecDepth 20000 in
set_option maxHeartbeats 4000000 in
theorem ok_X10_orNone {l : Launch} {g : Gam} {b : Nat} : ∀ (x0 : Int32) (M : Mem) (z : Int32 × Mem), f_X10_orNone x0 M = some z → Cn l g (wM b) m_X10_orNone [.int x0] M (some (.int z.1)) z.2 := fun x0 M z  hf => Cn_of (by decide +kernel) (Nat.le_of_ble_eq_true rfl) (V_sub [0] rfl (ok_X10_orNone_b0 x0 M z  hf))

abbrev m_X10_least : Mth := (yX10_least, cX10_least, 2, some .int, 1)
theorem yf_X10_least : YF m_X10_least 2 := ⟨tw_1428, tw_75, by decide +kernel, by decide +kernel⟩
def f_X10_least_b0  (x0 : Int32) (x1 : Int32) (M : Mem) : Option (Int32 × Mem) :=
  if x1 ≤ x0 then
    some (x1, M)
  else
    some (x0, M)
set_option maxRecDepth 20000 in
set_option maxHeartbeats 4000000 in
theorem ok_X10_least_b0 {l : Launch} {g : Gam} {b : Nat}   (x0 : Int32) (x1 : Int32) (M : Mem) (z : Int32 × Mem)  (hf : f_X10_least_b0 x0 x1 M = some z) : V l g (wM b) m_X10_least 0 [(0, .int x0), (1, .int x1)] [] M (some (.int z.1)) z.2 := by
  unfold f_X10_least_b0 at hf
  refine V_iload_n (Y := m_X10_least) (pc := 0) 0 dX10_least_0 rfl ?_
  refine V_iload_n (Y := m_X10_least) (pc := 1) 1 dX10_least_1 rfl ?_
  refine V_icmp_ge (Y := m_X10_least) (pc := 2) (tgt := 9) dX10_least_2 (by decide +kernel) hf (fun hf => ?_) (fun hf => ?_)
  · refine V_iload_n (Y := m_X10_least) (pc := 9) 1 dX10_least_9 rfl ?_
    obtain rfl := Option.some.inj hf
    exact V_iret (Y := m_X10_least) rfl dX10_least_10
  · refine V_iload_n (Y := m_X10_least) (pc := 5) 0 dX10_least_5 rfl ?_
    refine V_goto (Y := m_X10_least) (pc := 6) (tgt := 10) dX10_least_6 (by decide +kernel) ?_
    obtain rfl := Option.some.inj hf
    exact V_iret (Y := m_X10_least) rfl dX10_least_10
def f_X10_least (x0 : Int32) (x1 : Int32) (M : Mem) : Option (Int32 × Mem) := f_X10_least_b0 x0 x1 M
set_option maxRecDepth 20000 in
set_option maxHeartbeats 4000000 in
theorem ok_X10_least {l : Launch} {g : Gam} {b : Nat} : ∀ (x0 : Int32) (x1 : Int32) (M : Mem) (z : Int32 × Mem), f_X10_least x0 x1 M = some z → Cn l g (wM b) m_X10_least [.int x0, .int x1] M (some (.int z.1)) z.2 := fun x0 x1 M z  hf => Cn_of (by decide +kernel) (Nat.le_of_ble_eq_true rfl) (V_sub [0, 1] rfl (ok_X10_least_b0 x0 x1 M z  hf))

abbrev m_X10_size : Mth := (yX10_size, cX10_size, 1, some .int, 1)
theorem yf_X10_size : YF m_X10_size 1 := ⟨tw_1477, tw_75, by decide +kernel, by decide +kernel⟩
def f_X10_size_b0  (x0 : Int32) (M : Mem) : Option (Int32 × Mem) :=
  if 0 ≤ x0 then
    some (x0, M)
  else
    some ((-x0), M)
set_option maxRecDepth 20000 in
set_option maxHeartbeats 4000000 in
theorem ok_X10_size_b0 {l : Launch} {g : Gam} {b : Nat}   (x0 : Int32) (M : Mem) (z : Int32 × Mem)  (hf : f_X10_size_b0 x0 M = some z) : V l g (wM b) m_X10_size 0 [(0, .int x0)] [] M (some (.int z.1)) z.2 := by
  unfold f_X10_size_b0 at hf
  refine V_iload_n (Y := m_X10_size) (pc := 0) 0 dX10_size_0 rfl ?_
  refine V_if_ge (Y := m_X10_size) (pc := 1) (tgt := 9) dX10_size_1 (by decide +kernel) hf (fun hf => ?_) (fun hf => ?_)
  · refine V_iload_n (Y := m_X10_size) (pc := 9) 0 dX10_size_9 rfl ?_
    obtain rfl := Option.some.inj hf
    exact V_iret (Y := m_X10_size) rfl dX10_size_10
  · refine V_iload_n (Y := m_X10_size) (pc := 4) 0 dX10_size_4 rfl ?_
    refine V_ineg (Y := m_X10_size) (pc := 5) dX10_size_5 ?_
    refine V_goto (Y := m_X10_size) (pc := 6) (tgt := 10) dX10_size_6 (by decide +kernel) ?_
    obtain rfl := Option.some.inj hf
    exact V_iret (Y := m_X10_size) rfl dX10_size_10
def f_X10_size (x0 : Int32) (M : Mem) : Option (Int32 × Mem) := f_X10_size_b0 x0 M
set_option maxRecDepth 20000 in
set_option maxHeartbeats 4000000 in
theorem ok_X10_size {l : Launch} {g : Gam} {b : Nat} : ∀ (x0 : Int32) (M : Mem) (z : Int32 × Mem), f_X10_size x0 M = some z → Cn l g (wM b) m_X10_size [.int x0] M (some (.int z.1)) z.2 := fun x0 M z  hf => Cn_of (by decide +kernel) (Nat.le_of_ble_eq_true rfl) (V_sub [0] rfl (ok_X10_size_b0 x0 M z  hf))

abbrev m_X10_heldIn : Mth := (yX10_heldIn, cX10_heldIn, 4, some .int, 1)
theorem yf_X10_heldIn : YF m_X10_heldIn 3 := ⟨tw_1279, tw_75, by decide +kernel, by decide +kernel⟩
def f_X10_heldIn_b0  (y0 : Int64) (x2 : Int32) (x3 : Int32) (M : Mem) : Option (Int32 × Mem) :=
  if 0 ≤ (lg_cmp y0 x2.toInt64) then
    if (lg_cmp y0 x3.toInt64) ≤ 0 then
      some (y0.toInt32, M)
    else
      some (x3, M)
  else
    some (x2, M)
set_option maxRecDepth 20000 in
set_option maxHeartbeats 4000000 in
theorem ok_X10_heldIn_b0 {l : Launch} {g : Gam} {b : Nat}   (y0 : Int64) (x2 : Int32) (x3 : Int32) (M : Mem) (z : Int32 × Mem)  (hf : f_X10_heldIn_b0 y0 x2 x3 M = some z) : V l g (wM b) m_X10_heldIn 0 [(0, .long y0), (2, .int x2), (3, .int x3)] [] M (some (.int z.1)) z.2 := by
  unfold f_X10_heldIn_b0 at hf
  refine V_lload_n (Y := m_X10_heldIn) (pc := 0) 0 dX10_heldIn_0 rfl ?_
  refine V_iload_n (Y := m_X10_heldIn) (pc := 1) 1 dX10_heldIn_1 rfl ?_
  refine V_i2l (Y := m_X10_heldIn) (pc := 2) dX10_heldIn_2 ?_
  refine V_lcmp (Y := m_X10_heldIn) (pc := 3) dX10_heldIn_3 ?_
  refine V_if_ge (Y := m_X10_heldIn) (pc := 4) (tgt := 11) dX10_heldIn_4 (by decide +kernel) hf (fun hf => ?_) (fun hf => ?_)
  · refine V_lload_n (Y := m_X10_heldIn) (pc := 11) 0 dX10_heldIn_11 rfl ?_
    refine V_iload_n (Y := m_X10_heldIn) (pc := 12) 2 dX10_heldIn_12 rfl ?_
    refine V_i2l (Y := m_X10_heldIn) (pc := 13) dX10_heldIn_13 ?_
    refine V_lcmp (Y := m_X10_heldIn) (pc := 14) dX10_heldIn_14 ?_
    refine V_if_le (Y := m_X10_heldIn) (pc := 15) (tgt := 22) dX10_heldIn_15 (by decide +kernel) hf (fun hf => ?_) (fun hf => ?_)
    · refine V_lload_n (Y := m_X10_heldIn) (pc := 22) 0 dX10_heldIn_22 rfl ?_
      refine V_l2i (Y := m_X10_heldIn) (pc := 23) dX10_heldIn_23 ?_
      obtain rfl := Option.some.inj hf
      exact V_iret (Y := m_X10_heldIn) rfl dX10_heldIn_24
    · refine V_iload_n (Y := m_X10_heldIn) (pc := 18) 2 dX10_heldIn_18 rfl ?_
      refine V_goto (Y := m_X10_heldIn) (pc := 19) (tgt := 24) dX10_heldIn_19 (by decide +kernel) ?_
      obtain rfl := Option.some.inj hf
      exact V_iret (Y := m_X10_heldIn) rfl dX10_heldIn_24
  · refine V_iload_n (Y := m_X10_heldIn) (pc := 7) 1 dX10_heldIn_7 rfl ?_
    refine V_goto (Y := m_X10_heldIn) (pc := 8) (tgt := 24) dX10_heldIn_8 (by decide +kernel) ?_
    obtain rfl := Option.some.inj hf
    exact V_iret (Y := m_X10_heldIn) rfl dX10_heldIn_24
def f_X10_heldIn (y0 : Int64) (x2 : Int32) (x3 : Int32) (M : Mem) : Option (Int32 × Mem) := f_X10_heldIn_b0 y0 x2 x3 M
set_option maxRecDepth 20000 in
set_option maxHeartbeats 4000000 in
theorem ok_X10_heldIn {l : Launch} {g : Gam} {b : Nat} : ∀ (y0 : Int64) (x2 : Int32) (x3 : Int32) (M : Mem) (z : Int32 × Mem), f_X10_heldIn y0 x2 x3 M = some z → Cn l g (wM b) m_X10_heldIn [.long y0, .int x2, .int x3] M (some (.int z.1)) z.2 := fun y0 x2 x3 M z  hf => Cn_of (by decide +kernel) (Nat.le_of_ble_eq_true rfl) (V_sub [0, 1, 2] rfl (ok_X10_heldIn_b0 y0 x2 x3 M z  hf))

abbrev m_X10_becomes : Mth := (yX10_becomes, cX10_becomes, 4, some .int, 1)
theorem yf_X10_becomes : YF m_X10_becomes 2 := ⟨tw_1312, tw_75, by decide +kernel, by decide +kernel⟩
def f_X10_becomes_b0  (x1 : Int32) (x2 : Int32) (M : Mem) : Option (Int32 × Mem) :=
  if ixb x1 3300 = true then
  if ixb x1 3300 = true then
  some ((M 1 (ix x1)), (mset M 1 (ix x1) x2))
  else none
  else none
set_option maxRecDepth 20000 in
set_option maxHeartbeats 4000000 in
theorem ok_X10_becomes_b0 {l : Launch} {g : Gam} {b : Nat}   (x1 : Int32) (x2 : Int32) (M : Mem) (z : Int32 × Mem)  (hf : f_X10_becomes_b0 x1 x2 M = some z) : V l g (wM b) m_X10_becomes 0 [(0, .ref (b + 0)), (1, .int x1), (2, .int x2)] [] M (some (.int z.1)) z.2 := by
  unfold f_X10_becomes_b0 at hf
  refine V_aload_n (Y := m_X10_becomes) (pc := 0) 0 dX10_becomes_0 rfl ?_
  refine V_grL (Y := m_X10_becomes) (pc := 1) (x := 1) 0 kX10 sM_0 (by decide +kernel) rfl rfl tw_1070 dX10_becomes_1 ?_
  refine V_iload_n (Y := m_X10_becomes) (pc := 4) 1 dX10_becomes_4 rfl ?_
  obtain ⟨hi1, hf⟩ := g_if hf
  refine V_iald (Y := m_X10_becomes) (pc := 5) sM_1 hi1 dX10_becomes_5 ?_
  refine V_istore_n (Y := m_X10_becomes) (pc := 6) [(3, .int (M 1 (ix x1))), (0, .ref (b + 0)), (1, .int x1), (2, .int x2)] dX10_becomes_6 (by decide +kernel) rfl ?_
  refine V_aload_n (Y := m_X10_becomes) (pc := 7) 1 dX10_becomes_7 rfl ?_
  refine V_grL (Y := m_X10_becomes) (pc := 8) (x := 1) 0 kX10 sM_0 (by decide +kernel) rfl rfl tw_1070 dX10_becomes_8 ?_
  refine V_iload_n (Y := m_X10_becomes) (pc := 11) 2 dX10_becomes_11 rfl ?_
  refine V_iload_n (Y := m_X10_becomes) (pc := 12) 3 dX10_becomes_12 rfl ?_
  obtain ⟨hi2, hf⟩ := g_if hf
  refine V_iast (Y := m_X10_becomes) (pc := 13) sM_1 hi2 dX10_becomes_13 ?_
  refine V_iload_n (Y := m_X10_becomes) (pc := 14) 0 dX10_becomes_14 rfl ?_
  obtain rfl := Option.some.inj hf
  exact V_iret (Y := m_X10_becomes) rfl dX10_becomes_15
def f_X10_becomes (x1 : Int32) (x2 : Int32) (M : Mem) : Option (Int32 × Mem) := f_X10_becomes_b0 x1 x2 M
set_option maxRecDepth 20000 in
set_option maxHeartbeats 4000000 in
theorem ok_X10_becomes {l : Launch} {g : Gam} {b : Nat} : ∀ (x1 : Int32) (x2 : Int32) (M : Mem) (z : Int32 × Mem), f_X10_becomes x1 x2 M = some z → Cn l g (wM b) m_X10_becomes [.ref (b + 0), .int x1, .int x2] M (some (.int z.1)) z.2 := fun x1 x2 M z  hf => Cn_of (by decide +kernel) (Nat.le_of_ble_eq_true rfl) (V_sub [0, 1, 2] rfl (ok_X10_becomes_b0 x1 x2 M z  hf))

abbrev m_X10_markAt : Mth := (yX10_markAt, cX10_markAt, 2, some .int, 1)
theorem yf_X10_markAt : YF m_X10_markAt 1 := ⟨tw_1233, tw_75, by decide +kernel, by decide +kernel⟩
def f_X10_markAt_b0  (x1 : Int32) (M : Mem) : Option (Int32 × Mem) :=
  some (((120 : Int32) + ((7 : Int32) * x1)), M)
set_option maxRecDepth 20000 in
set_option maxHeartbeats 4000000 in
theorem ok_X10_markAt_b0 {l : Launch} {g : Gam} {b : Nat}   (x1 : Int32) (M : Mem) (z : Int32 × Mem)  (hf : f_X10_markAt_b0 x1 M = some z) : V l g (wM b) m_X10_markAt 0 [(1, .int x1)] [] M (some (.int z.1)) z.2 := by
  unfold f_X10_markAt_b0 at hf
  refine V_bipush (Y := m_X10_markAt) (pc := 0) (x := (120 : Int32)) dX10_markAt_0 (by decide +kernel) ?_
  refine V_bipush (Y := m_X10_markAt) (pc := 2) (x := (7 : Int32)) dX10_markAt_2 (by decide +kernel) ?_
  refine V_iload_n (Y := m_X10_markAt) (pc := 4) 0 dX10_markAt_4 rfl ?_
  refine V_imul (Y := m_X10_markAt) (pc := 5) dX10_markAt_5 ?_
  refine V_iadd (Y := m_X10_markAt) (pc := 6) dX10_markAt_6 ?_
  obtain rfl := Option.some.inj hf
  exact V_iret (Y := m_X10_markAt) rfl dX10_markAt_7
def f_X10_markAt (x1 : Int32) (M : Mem) : Option (Int32 × Mem) := f_X10_markAt_b0 x1 M
set_option maxRecDepth 20000 in
set_option maxHeartbeats 4000000 in
theorem ok_X10_markAt {l : Launch} {g : Gam} {b : Nat} : ∀ (x1 : Int32) (M : Mem) (z : Int32 × Mem), f_X10_markAt x1 M = some z → Cn l g (wM b) m_X10_markAt [.ref (b + 0), .int x1] M (some (.int z.1)) z.2 := fun x1 M z  hf => Cn_of (by decide +kernel) (Nat.le_of_ble_eq_true rfl) (V_sub [1] rfl (ok_X10_markAt_b0 x1 M z  hf))

abbrev m_X10_field : Mth := (yX10_field, cX10_field, 3, some .int, 1)
theorem yf_X10_field : YF m_X10_field 2 := ⟨tw_1245, tw_75, by decide +kernel, by decide +kernel⟩
def f_X10_field_b0  (x1 : Int32) (x2 : Int32) (M : Mem) : Option (Int32 × Mem) :=
  if ixb (((120 : Int32) + ((7 : Int32) * x1)) + x2) 3300 = true then
  some ((M 1 (ix (((120 : Int32) + ((7 : Int32) * x1)) + x2))), M)
  else none
set_option maxRecDepth 20000 in
set_option maxHeartbeats 4000000 in
theorem ok_X10_field_b0 {l : Launch} {g : Gam} {b : Nat}   (x1 : Int32) (x2 : Int32) (M : Mem) (z : Int32 × Mem)  (hf : f_X10_field_b0 x1 x2 M = some z) : V l g (wM b) m_X10_field 0 [(0, .ref (b + 0)), (1, .int x1), (2, .int x2)] [] M (some (.int z.1)) z.2 := by
  unfold f_X10_field_b0 at hf
  refine V_aload_n (Y := m_X10_field) (pc := 0) 0 dX10_field_0 rfl ?_
  refine V_grL (Y := m_X10_field) (pc := 1) (x := 1) 0 kX10 sM_0 (by decide +kernel) rfl rfl tw_1070 dX10_field_1 ?_
  refine V_bipush (Y := m_X10_field) (pc := 4) (x := (120 : Int32)) dX10_field_4 (by decide +kernel) ?_
  refine V_bipush (Y := m_X10_field) (pc := 6) (x := (7 : Int32)) dX10_field_6 (by decide +kernel) ?_
  refine V_iload_n (Y := m_X10_field) (pc := 8) 1 dX10_field_8 rfl ?_
  refine V_imul (Y := m_X10_field) (pc := 9) dX10_field_9 ?_
  refine V_iadd (Y := m_X10_field) (pc := 10) dX10_field_10 ?_
  refine V_iload_n (Y := m_X10_field) (pc := 11) 2 dX10_field_11 rfl ?_
  refine V_iadd (Y := m_X10_field) (pc := 12) dX10_field_12 ?_
  obtain ⟨hi1, hf⟩ := g_if hf
  refine V_iald (Y := m_X10_field) (pc := 13) sM_1 hi1 dX10_field_13 ?_
  obtain rfl := Option.some.inj hf
  exact V_iret (Y := m_X10_field) rfl dX10_field_14
def f_X10_field (x1 : Int32) (x2 : Int32) (M : Mem) : Option (Int32 × Mem) := f_X10_field_b0 x1 x2 M
set_option maxRecDepth 20000 in
set_option maxHeartbeats 4000000 in
theorem ok_X10_field {l : Launch} {g : Gam} {b : Nat} : ∀ (x1 : Int32) (x2 : Int32) (M : Mem) (z : Int32 × Mem), f_X10_field x1 x2 M = some z → Cn l g (wM b) m_X10_field [.ref (b + 0), .int x1, .int x2] M (some (.int z.1)) z.2 := fun x1 x2 M z  hf => Cn_of (by decide +kernel) (Nat.le_of_ble_eq_true rfl) (V_sub [0, 1, 2] rfl (ok_X10_field_b0 x1 x2 M z  hf))

abbrev m_X10_textAt : Mth := (yX10_textAt, cX10_textAt, 2, some .int, 1)
theorem yf_X10_textAt : YF m_X10_textAt 1 := ⟨tw_1269, tw_75, by decide +kernel, by decide +kernel⟩
def f_X10_textAt_b0  (x1 : Int32) (M : Mem) : Option (Int32 × Mem) :=
  some (((290 : Int32) + ((200 : Int32) * x1)), M)
set_option maxRecDepth 20000 in
set_option maxHeartbeats 4000000 in
theorem ok_X10_textAt_b0 {l : Launch} {g : Gam} {b : Nat}   (x1 : Int32) (M : Mem) (z : Int32 × Mem)  (hf : f_X10_textAt_b0 x1 M = some z) : V l g (wM b) m_X10_textAt 0 [(1, .int x1)] [] M (some (.int z.1)) z.2 := by
  unfold f_X10_textAt_b0 at hf
  refine V_sipush (Y := m_X10_textAt) (pc := 0) (x := (290 : Int32)) dX10_textAt_0 (by decide +kernel) ?_
  refine V_sipush (Y := m_X10_textAt) (pc := 3) (x := (200 : Int32)) dX10_textAt_3 (by decide +kernel) ?_
  refine V_iload_n (Y := m_X10_textAt) (pc := 6) 0 dX10_textAt_6 rfl ?_
  refine V_imul (Y := m_X10_textAt) (pc := 7) dX10_textAt_7 ?_
  refine V_iadd (Y := m_X10_textAt) (pc := 8) dX10_textAt_8 ?_
  obtain rfl := Option.some.inj hf
  exact V_iret (Y := m_X10_textAt) rfl dX10_textAt_9
def f_X10_textAt (x1 : Int32) (M : Mem) : Option (Int32 × Mem) := f_X10_textAt_b0 x1 M
set_option maxRecDepth 20000 in
set_option maxHeartbeats 4000000 in
theorem ok_X10_textAt {l : Launch} {g : Gam} {b : Nat} : ∀ (x1 : Int32) (M : Mem) (z : Int32 × Mem), f_X10_textAt x1 M = some z → Cn l g (wM b) m_X10_textAt [.ref (b + 0), .int x1] M (some (.int z.1)) z.2 := fun x1 M z  hf => Cn_of (by decide +kernel) (Nat.le_of_ble_eq_true rfl) (V_sub [1] rfl (ok_X10_textAt_b0 x1 M z  hf))

abbrev m_X10_isMark : Mth := (yX10_isMark, cX10_isMark, 2, some .boolean, 2)
theorem yf_X10_isMark : YF m_X10_isMark 1 := ⟨tw_1241, tw_75, by decide +kernel, by decide +kernel⟩
def f_X10_isMark_b0  (x1 : Int32) (M : Mem) : Option (Int32 × Mem) :=
  (f_X10_isIn x1.toInt64 (0 : Int64) ((M 1 0) - (1 : Int32)).toInt64 M).bind fun q1 =>
  if z01 q1.1 = true then some (q1.1, q1.2) else none
set_option maxRecDepth 20000 in
set_option maxHeartbeats 4000000 in
theorem ok_X10_isMark_b0 {l : Launch} {g : Gam} {b : Nat}   (x1 : Int32) (M : Mem) (z : Int32 × Mem)  (hf : f_X10_isMark_b0 x1 M = some z) : V l g (wM b) m_X10_isMark 0 [(0, .ref (b + 0)), (1, .int x1)] [] M (some (.int z.1)) z.2 := by
  unfold f_X10_isMark_b0 at hf
  refine V_iload_n (Y := m_X10_isMark) (pc := 0) 1 dX10_isMark_0 rfl ?_
  refine V_i2l (Y := m_X10_isMark) (pc := 1) dX10_isMark_1 ?_
  refine V_lconst (Y := m_X10_isMark) (pc := 2) (x := (0 : Int64)) dX10_isMark_2 (by decide +kernel) ?_
  refine V_aload_n (Y := m_X10_isMark) (pc := 3) 0 dX10_isMark_3 rfl ?_
  refine V_grL (Y := m_X10_isMark) (pc := 4) (x := 1) 0 kX10 sM_0 (by decide +kernel) rfl rfl tw_1070 dX10_isMark_4 ?_
  refine V_iconst (Y := m_X10_isMark) (pc := 7) (x := (0 : Int32)) dX10_isMark_7 (by decide +kernel) ?_
  refine V_ialdL (Y := m_X10_isMark) (pc := 8) (j := 0) sM_1 (by decide +kernel) rfl dX10_isMark_8 ?_
  refine V_iconst (Y := m_X10_isMark) (pc := 9) (x := (1 : Int32)) dX10_isMark_9 (by decide +kernel) ?_
  refine V_isub (Y := m_X10_isMark) (pc := 10) dX10_isMark_10 ?_
  refine V_i2l (Y := m_X10_isMark) (pc := 11) dX10_isMark_11 ?_
  obtain ⟨q1, hq1, hf⟩ := g_bind hf
  refine V_cSi (Y := m_X10_isMark) (pc := 12) (As := [.long x1.toInt64, .long (0 : Int64), .long ((M 1 0) - (1 : Int32)).toInt64]) yf_X10_isIn (by decide +kernel) (ok_X10_isIn x1.toInt64 (0 : Int64) ((M 1 0) - (1 : Int32)).toInt64 M _  hq1) tw_1218 tw_1217 rfl rfl (Nat.le_of_ble_eq_true rfl) dX10_isMark_12 ?_
  obtain ⟨hz2, hf⟩ := g_if hf
  obtain rfl := Option.some.inj hf
  exact V_zret (Y := m_X10_isMark) hz2 rfl dX10_isMark_15
def f_X10_isMark (x1 : Int32) (M : Mem) : Option (Int32 × Mem) := f_X10_isMark_b0 x1 M
set_option maxRecDepth 20000 in
set_option maxHeartbeats 4000000 in
theorem ok_X10_isMark {l : Launch} {g : Gam} {b : Nat} : ∀ (x1 : Int32) (M : Mem) (z : Int32 × Mem), f_X10_isMark x1 M = some z → Cn l g (wM b) m_X10_isMark [.ref (b + 0), .int x1] M (some (.int z.1)) z.2 := fun x1 M z  hf => Cn_of (by decide +kernel) (Nat.le_of_ble_eq_true rfl) (V_sub [0, 1] rfl (ok_X10_isMark_b0 x1 M z  hf))

