abbrev m_X10_parse : Mth := (yX10_parse, cX10_parse, 3, some .int, 125)
theorem yf_X10_parse : YF m_X10_parse 0 := ⟨tw_1333, tw_75, by decide +kernel, by decide +kernel⟩
def f_X10_parse_b111  (x1 : Int32) (x2 : Int32) (M : Mem) : Option (Int32 × Mem) :=
  if x2 = 0 then
    some ((-1 : Int32), (mset M 0 13 (0 : Int32)))
  else
    some (x1, (mset M 0 13 (0 : Int32)))
set_option maxRecDepth 20000 in
set_option maxHeartbeats 4000000 in
theorem ok_X10_parse_b111 {l : Launch} {g : Gam} {b : Nat}   (x1 : Int32) (x2 : Int32) (M : Mem) (z : Int32 × Mem)  (hf : f_X10_parse_b111 x1 x2 M = some z) : V l g (wM b) m_X10_parse 111 [(0, .ref (b + 0)), (1, .int x1), (2, .int x2)] [] M (some (.int z.1)) z.2 := by
  unfold f_X10_parse_b111 at hf
  refine V_aload_n (Y := m_X10_parse) (pc := 111) 0 dX10_parse_111 rfl ?_
  refine V_iconst (Y := m_X10_parse) (pc := 112) (x := (0 : Int32)) dX10_parse_112 (by decide +kernel) ?_
  refine V_pi (Y := m_X10_parse) (pc := 113) 13 kX10 sM_0 (by decide +kernel) rfl rfl rfl tw_1083 dX10_parse_113 ?_
  refine V_iload_n (Y := m_X10_parse) (pc := 116) 2 dX10_parse_116 rfl ?_
  refine V_if_eq (Y := m_X10_parse) (pc := 117) (tgt := 124) dX10_parse_117 (by decide +kernel) hf (fun hf => ?_) (fun hf => ?_)
  · refine V_iconst (Y := m_X10_parse) (pc := 124) (x := (-1 : Int32)) dX10_parse_124 (by decide +kernel) ?_
    obtain rfl := Option.some.inj hf
    exact V_iret (Y := m_X10_parse) rfl dX10_parse_125
  · refine V_iload_n (Y := m_X10_parse) (pc := 120) 1 dX10_parse_120 rfl ?_
    refine V_goto (Y := m_X10_parse) (pc := 121) (tgt := 125) dX10_parse_121 (by decide +kernel) ?_
    obtain rfl := Option.some.inj hf
    exact V_iret (Y := m_X10_parse) rfl dX10_parse_125
def f_X10_parse_b110  (x1 : Int32) (s0 : Int32) (M : Mem) : Option (Int32 × Mem) :=
  f_X10_parse_b111  x1 s0 M
set_option maxRecDepth 20000 in
set_option maxHeartbeats 4000000 in
theorem ok_X10_parse_b110 {l : Launch} {g : Gam} {b : Nat}   (x1 : Int32) (s0 : Int32) (M : Mem) (z : Int32 × Mem)  (hf : f_X10_parse_b110 x1 s0 M = some z) : V l g (wM b) m_X10_parse 110 [(0, .ref (b + 0)), (1, .int x1)] [.int s0] M (some (.int z.1)) z.2 := by
  unfold f_X10_parse_b110 at hf
  refine V_istore_n (Y := m_X10_parse) (pc := 110) [(2, .int s0), (0, .ref (b + 0)), (1, .int x1)] dX10_parse_110 (by decide +kernel) rfl ?_
  exact V_sub [1, 2, 0] rfl (ok_X10_parse_b111  x1 s0 M z  hf)
def f_X10_parse_b109  (x1 : Int32) (M : Mem) : Option (Int32 × Mem) :=
  f_X10_parse_b110  x1 (0 : Int32) M
set_option maxRecDepth 20000 in
set_option maxHeartbeats 4000000 in
theorem ok_X10_parse_b109 {l : Launch} {g : Gam} {b : Nat}   (x1 : Int32) (M : Mem) (z : Int32 × Mem)  (hf : f_X10_parse_b109 x1 M = some z) : V l g (wM b) m_X10_parse 109 [(0, .ref (b + 0)), (1, .int x1)] [] M (some (.int z.1)) z.2 := by
  unfold f_X10_parse_b109 at hf
  refine V_iconst (Y := m_X10_parse) (pc := 109) (x := (0 : Int32)) dX10_parse_109 (by decide +kernel) ?_
  exact V_sub [0, 1] rfl (ok_X10_parse_b110  x1 (0 : Int32) M z  hf)
def f_X10_parse_b81  (x1 : Int32) (s0 : Int32) (M : Mem) : Option (Int32 × Mem) :=
  if s0 = 0 then
    f_X10_parse_b111  x1 s0 M
  else
    (f_X10_goesOn  M).bind fun q1 =>
    (f_X10_either FR x1 q1.2).bind fun q2 =>
    if q2.1 = 0 then
      f_X10_parse_b109  x1 q2.2
    else
      if (q2.2 0 16) = 0 then
        f_X10_parse_b110  x1 (1 : Int32) q2.2
      else
        f_X10_parse_b109  x1 q2.2
set_option maxRecDepth 20000 in
set_option maxHeartbeats 4000000 in
theorem ok_X10_parse_b81 {l : Launch} {g : Gam} {b : Nat}   (x1 : Int32) (s0 : Int32) (M : Mem) (z : Int32 × Mem)  (hf : f_X10_parse_b81 x1 s0 M = some z) : V l g (wM b) m_X10_parse 81 [(0, .ref (b + 0)), (1, .int x1)] [.int s0] M (some (.int z.1)) z.2 := by
  unfold f_X10_parse_b81 at hf
  refine V_istore_n (Y := m_X10_parse) (pc := 81) [(2, .int s0), (0, .ref (b + 0)), (1, .int x1)] dX10_parse_81 (by decide +kernel) rfl ?_
  refine V_iload_n (Y := m_X10_parse) (pc := 82) 0 dX10_parse_82 rfl ?_
  refine V_if_eq (Y := m_X10_parse) (pc := 83) (tgt := 111) dX10_parse_83 (by decide +kernel) hf (fun hf => ?_) (fun hf => ?_)
  · exact V_sub [1, 2, 0] rfl (ok_X10_parse_b111  x1 s0 M z  hf)
  · refine V_aload_n (Y := m_X10_parse) (pc := 86) 1 dX10_parse_86 rfl ?_
    obtain ⟨q1, hq1, hf⟩ := g_bind hf
    refine V_cVv (Y := m_X10_parse) (pc := 87) (As := []) yf_X10_goesOn kX10 sM_0 (by decide +kernel) (ok_X10_goesOn  M _  hq1) tw_1336 tw_32 tw_1334 rfl rfl (Nat.le_of_ble_eq_true rfl) dX10_parse_87 ?_
    refine V_aload_n (Y := m_X10_parse) (pc := 90) 1 dX10_parse_90 rfl ?_
    refine V_iload_n (Y := m_X10_parse) (pc := 91) 2 dX10_parse_91 rfl ?_
    obtain ⟨q2, hq2, hf⟩ := g_bind hf
    refine V_cVi (Y := m_X10_parse) (pc := 92) (As := [.int x1]) (yf_X10_either FR) kX10 sM_0 (by decide +kernel) (ok_X10_either FR x1 q1.2 _  hq2) tw_1364 tw_38 tw_1362 rfl rfl (Nat.le_of_ble_eq_true rfl) dX10_parse_92 ?_
    refine V_if_eq (Y := m_X10_parse) (pc := 95) (tgt := 109) dX10_parse_95 (by decide +kernel) hf (fun hf => ?_) (fun hf => ?_)
    · exact V_sub [1, 2] rfl (ok_X10_parse_b109  x1 q2.2 z  hf)
    · refine V_aload_n (Y := m_X10_parse) (pc := 98) 1 dX10_parse_98 rfl ?_
      refine V_gi (Y := m_X10_parse) (pc := 99) 16 kX10 sM_0 (by decide +kernel) rfl tw_1086 dX10_parse_99 ?_
      refine V_if_ne (Y := m_X10_parse) (pc := 102) (tgt := 109) dX10_parse_102 (by decide +kernel) hf (fun hf => ?_) (fun hf => ?_)
      · exact V_sub [1, 2] rfl (ok_X10_parse_b109  x1 q2.2 z  hf)
      · refine V_iconst (Y := m_X10_parse) (pc := 105) (x := (1 : Int32)) dX10_parse_105 (by decide +kernel) ?_
        refine V_goto (Y := m_X10_parse) (pc := 106) (tgt := 110) dX10_parse_106 (by decide +kernel) ?_
        exact V_sub [1, 2] rfl (ok_X10_parse_b110  x1 (1 : Int32) q2.2 z  hf)
def f_X10_parse_b60  (s0 : Int32) (M : Mem) : Option (Int32 × Mem) :=
  (f_X10_goesOn  (mset M 0 22 s0)).bind fun q1 =>
  (f_X10_key  q1.2).bind fun q2 =>
  if q2.1 < 0 then
    f_X10_parse_b81  q2.1 (0 : Int32) q2.2
  else
    f_X10_parse_b81  q2.1 (1 : Int32) q2.2
set_option maxRecDepth 20000 in
set_option maxHeartbeats 4000000 in
theorem ok_X10_parse_b60 {l : Launch} {g : Gam} {b : Nat}   (s0 : Int32) (M : Mem) (z : Int32 × Mem)  (hf : f_X10_parse_b60 s0 M = some z) : V l g (wM b) m_X10_parse 60 [(0, .ref (b + 0))] [.int s0, .ref (b + 0)] M (some (.int z.1)) z.2 := by
  unfold f_X10_parse_b60 at hf
  refine V_pi (Y := m_X10_parse) (pc := 60) 22 kX10 sM_0 (by decide +kernel) rfl rfl rfl tw_1092 dX10_parse_60 ?_
  refine V_aload_n (Y := m_X10_parse) (pc := 63) 0 dX10_parse_63 rfl ?_
  obtain ⟨q1, hq1, hf⟩ := g_bind hf
  refine V_cVv (Y := m_X10_parse) (pc := 64) (As := []) yf_X10_goesOn kX10 sM_0 (by decide +kernel) (ok_X10_goesOn  (mset M 0 22 s0) _  hq1) tw_1336 tw_32 tw_1334 rfl rfl (Nat.le_of_ble_eq_true rfl) dX10_parse_64 ?_
  refine V_aload_n (Y := m_X10_parse) (pc := 67) 0 dX10_parse_67 rfl ?_
  obtain ⟨q2, hq2, hf⟩ := g_bind hf
  refine V_cVi (Y := m_X10_parse) (pc := 68) (As := []) yf_X10_key kX10 sM_0 (by decide +kernel) (ok_X10_key  q1.2 _  hq2) tw_1352 tw_35 tw_1350 rfl rfl (Nat.le_of_ble_eq_true rfl) dX10_parse_68 ?_
  refine V_istore_n (Y := m_X10_parse) (pc := 71) [(1, .int q2.1), (0, .ref (b + 0))] dX10_parse_71 (by decide +kernel) rfl ?_
  refine V_iload_n (Y := m_X10_parse) (pc := 72) 0 dX10_parse_72 rfl ?_
  refine V_if_lt (Y := m_X10_parse) (pc := 73) (tgt := 80) dX10_parse_73 (by decide +kernel) hf (fun hf => ?_) (fun hf => ?_)
  · refine V_iconst (Y := m_X10_parse) (pc := 80) (x := (0 : Int32)) dX10_parse_80 (by decide +kernel) ?_
    exact V_sub [1, 0] rfl (ok_X10_parse_b81  q2.1 (0 : Int32) q2.2 z  hf)
  · refine V_iconst (Y := m_X10_parse) (pc := 76) (x := (1 : Int32)) dX10_parse_76 (by decide +kernel) ?_
    refine V_goto (Y := m_X10_parse) (pc := 77) (tgt := 81) dX10_parse_77 (by decide +kernel) ?_
    exact V_sub [1, 0] rfl (ok_X10_parse_b81  q2.1 (1 : Int32) q2.2 z  hf)
def f_X10_parse_bc25_1   (M : Mem) : Option (Int32 × Mem) :=
  if (14 : Int32) ≤ ((mset M 0 23 (0 : Int32)) 1 1) then
    f_X10_parse_b60  (3100 : Int32) (mset M 0 23 (0 : Int32))
  else
    (f_X10_textAt ((mset M 0 23 (0 : Int32)) 1 1) (mset M 0 23 (0 : Int32))).bind fun q1 =>
    f_X10_parse_b60  (q1.1 + (4 : Int32)) q1.2
set_option maxRecDepth 20000 in
set_option maxHeartbeats 4000000 in
theorem ok_X10_parse_bc25_1 {l : Launch} {g : Gam} {b : Nat}    (M : Mem) (z : Int32 × Mem)  (hf : f_X10_parse_bc25_1  M = some z) : V l g (wM b) m_X10_parse 25 [(0, .ref (b + 0))] [] M (some (.int z.1)) z.2 := by
  unfold f_X10_parse_bc25_1 at hf
  refine V_aload_n (Y := m_X10_parse) (pc := 25) 0 dX10_parse_25 rfl ?_
  refine V_iconst (Y := m_X10_parse) (pc := 26) (x := (0 : Int32)) dX10_parse_26 (by decide +kernel) ?_
  refine V_pi (Y := m_X10_parse) (pc := 27) 23 kX10 sM_0 (by decide +kernel) rfl rfl rfl tw_1093 dX10_parse_27 ?_
  refine V_aload_n (Y := m_X10_parse) (pc := 30) 0 dX10_parse_30 rfl ?_
  refine V_aload_n (Y := m_X10_parse) (pc := 31) 0 dX10_parse_31 rfl ?_
  refine V_grL (Y := m_X10_parse) (pc := 32) (x := 1) 0 kX10 sM_0 (by decide +kernel) rfl rfl tw_1070 dX10_parse_32 ?_
  refine V_iconst (Y := m_X10_parse) (pc := 35) (x := (1 : Int32)) dX10_parse_35 (by decide +kernel) ?_
  refine V_ialdL (Y := m_X10_parse) (pc := 36) (j := 1) sM_1 (by decide +kernel) rfl dX10_parse_36 ?_
  refine V_bipush (Y := m_X10_parse) (pc := 37) (x := (14 : Int32)) dX10_parse_37 (by decide +kernel) ?_
  refine V_icmp_ge (Y := m_X10_parse) (pc := 39) (tgt := 57) dX10_parse_39 (by decide +kernel) hf (fun hf => ?_) (fun hf => ?_)
  · refine V_sipush (Y := m_X10_parse) (pc := 57) (x := (3100 : Int32)) dX10_parse_57 (by decide +kernel) ?_
    exact V_sub [0] rfl (ok_X10_parse_b60  (3100 : Int32) (mset M 0 23 (0 : Int32)) z  hf)
  · refine V_aload_n (Y := m_X10_parse) (pc := 42) 0 dX10_parse_42 rfl ?_
    refine V_aload_n (Y := m_X10_parse) (pc := 43) 0 dX10_parse_43 rfl ?_
    refine V_grL (Y := m_X10_parse) (pc := 44) (x := 1) 0 kX10 sM_0 (by decide +kernel) rfl rfl tw_1070 dX10_parse_44 ?_
    refine V_iconst (Y := m_X10_parse) (pc := 47) (x := (1 : Int32)) dX10_parse_47 (by decide +kernel) ?_
    refine V_ialdL (Y := m_X10_parse) (pc := 48) (j := 1) sM_1 (by decide +kernel) rfl dX10_parse_48 ?_
    obtain ⟨q1, hq1, hf⟩ := g_bind hf
    refine V_cVi (Y := m_X10_parse) (pc := 49) (As := [.int ((mset M 0 23 (0 : Int32)) 1 1)]) yf_X10_textAt kX10 sM_0 (by decide +kernel) (ok_X10_textAt ((mset M 0 23 (0 : Int32)) 1 1) (mset M 0 23 (0 : Int32)) _  hq1) tw_1268 tw_25 tw_1266 rfl rfl (Nat.le_of_ble_eq_true rfl) dX10_parse_49 ?_
    refine V_iconst (Y := m_X10_parse) (pc := 52) (x := (4 : Int32)) dX10_parse_52 (by decide +kernel) ?_
    refine V_iadd (Y := m_X10_parse) (pc := 53) dX10_parse_53 ?_
    refine V_goto (Y := m_X10_parse) (pc := 54) (tgt := 60) dX10_parse_54 (by decide +kernel) ?_
    exact V_sub [0] rfl (ok_X10_parse_b60  (q1.1 + (4 : Int32)) q1.2 z  hf)
def f_X10_parse_b0   (M : Mem) : Option (Int32 × Mem) :=
  f_X10_parse_bc25_1   (mset (mset (mset (mset (mset M 0 15 (0 : Int32)) 0 16 (3 : Int32)) 0 19 (0 : Int32)) 0 20 (0 : Int32)) 0 21 (0 : Int32))
set_option maxRecDepth 20000 in
set_option maxHeartbeats 4000000 in
theorem ok_X10_parse_b0 {l : Launch} {g : Gam} {b : Nat}    (M : Mem) (z : Int32 × Mem)  (hf : f_X10_parse_b0  M = some z) : V l g (wM b) m_X10_parse 0 [(0, .ref (b + 0))] [] M (some (.int z.1)) z.2 := by
  unfold f_X10_parse_b0 at hf
  refine V_aload_n (Y := m_X10_parse) (pc := 0) 0 dX10_parse_0 rfl ?_
  refine V_iconst (Y := m_X10_parse) (pc := 1) (x := (0 : Int32)) dX10_parse_1 (by decide +kernel) ?_
  refine V_pi (Y := m_X10_parse) (pc := 2) 15 kX10 sM_0 (by decide +kernel) rfl rfl rfl tw_1085 dX10_parse_2 ?_
  refine V_aload_n (Y := m_X10_parse) (pc := 5) 0 dX10_parse_5 rfl ?_
  refine V_iconst (Y := m_X10_parse) (pc := 6) (x := (3 : Int32)) dX10_parse_6 (by decide +kernel) ?_
  refine V_pi (Y := m_X10_parse) (pc := 7) 16 kX10 sM_0 (by decide +kernel) rfl rfl rfl tw_1086 dX10_parse_7 ?_
  refine V_aload_n (Y := m_X10_parse) (pc := 10) 0 dX10_parse_10 rfl ?_
  refine V_iconst (Y := m_X10_parse) (pc := 11) (x := (0 : Int32)) dX10_parse_11 (by decide +kernel) ?_
  refine V_pi (Y := m_X10_parse) (pc := 12) 19 kX10 sM_0 (by decide +kernel) rfl rfl rfl tw_1089 dX10_parse_12 ?_
  refine V_aload_n (Y := m_X10_parse) (pc := 15) 0 dX10_parse_15 rfl ?_
  refine V_iconst (Y := m_X10_parse) (pc := 16) (x := (0 : Int32)) dX10_parse_16 (by decide +kernel) ?_
  refine V_pi (Y := m_X10_parse) (pc := 17) 20 kX10 sM_0 (by decide +kernel) rfl rfl rfl tw_1090 dX10_parse_17 ?_
  refine V_aload_n (Y := m_X10_parse) (pc := 20) 0 dX10_parse_20 rfl ?_
  refine V_iconst (Y := m_X10_parse) (pc := 21) (x := (0 : Int32)) dX10_parse_21 (by decide +kernel) ?_
  refine V_pi (Y := m_X10_parse) (pc := 22) 21 kX10 sM_0 (by decide +kernel) rfl rfl rfl tw_1091 dX10_parse_22 ?_
  exact V_sub [0] rfl (ok_X10_parse_bc25_1   (mset (mset (mset (mset (mset M 0 15 (0 : Int32)) 0 16 (3 : Int32)) 0 19 (0 : Int32)) 0 20 (0 : Int32)) 0 21 (0 : Int32)) z  hf)
def f_X10_parse  (M : Mem) : Option (Int32 × Mem) := f_X10_parse_b0  M
set_option maxRecDepth 20000 in
set_option maxHeartbeats 4000000 in
theorem ok_X10_parse {l : Launch} {g : Gam} {b : Nat} : ∀  (M : Mem) (z : Int32 × Mem), f_X10_parse  M = some z → Cn l g (wM b) m_X10_parse [.ref (b + 0)] M (some (.int z.1)) z.2 := fun  M z  hf => Cn_of (by decide +kernel) (Nat.le_of_ble_eq_true rfl) (V_sub [0] rfl (ok_X10_parse_b0  M z  hf))

abbrev m_X10_law : Mth := (yX10_law, cX10_law, 3, some .int, 126)
theorem yf_X10_law : YF m_X10_law 0 := ⟨tw_1329, tw_75, by decide +kernel, by decide +kernel⟩
def f_X10_law_bc85_2   (M : Mem) : Option (Int32 × Mem) :=
  some (((M 1 1) - (1 : Int32)), M)
set_option maxRecDepth 20000 in
set_option maxHeartbeats 4000000 in
theorem ok_X10_law_bc85_2 {l : Launch} {g : Gam} {b : Nat}    (M : Mem) (z : Int32 × Mem)  (hf : f_X10_law_bc85_2  M = some z) : V l g (wM b) m_X10_law 85 [(0, .ref (b + 0))] [] M (some (.int z.1)) z.2 := by
  unfold f_X10_law_bc85_2 at hf
  refine V_aload_n (Y := m_X10_law) (pc := 85) 0 dX10_law_85 rfl ?_
  refine V_grL (Y := m_X10_law) (pc := 86) (x := 1) 0 kX10 sM_0 (by decide +kernel) rfl rfl tw_1070 dX10_law_86 ?_
  refine V_iconst (Y := m_X10_law) (pc := 89) (x := (1 : Int32)) dX10_law_89 (by decide +kernel) ?_
  refine V_ialdL (Y := m_X10_law) (pc := 90) (j := 1) sM_1 (by decide +kernel) rfl dX10_law_90 ?_
  refine V_iconst (Y := m_X10_law) (pc := 91) (x := (1 : Int32)) dX10_law_91 (by decide +kernel) ?_
  refine V_isub (Y := m_X10_law) (pc := 92) dX10_law_92 ?_
  obtain rfl := Option.some.inj hf
  exact V_iret (Y := m_X10_law) rfl dX10_law_93
def f_X10_law_bc63_1  (x2 : Int32) (M : Mem) : Option (Int32 × Mem) :=
  if ixb (x2 + (2 : Int32)) 3300 = true then
  f_X10_law_bc85_2   (mset (mset M 1 (ix (x2 + (2 : Int32))) (M 0 21)) 1 1 (((mset M 1 (ix (x2 + (2 : Int32))) (M 0 21)) 1 1) + (1 : Int32)))
  else none
set_option maxRecDepth 20000 in
set_option maxHeartbeats 4000000 in
theorem ok_X10_law_bc63_1 {l : Launch} {g : Gam} {b : Nat}   (x2 : Int32) (M : Mem) (z : Int32 × Mem)  (hf : f_X10_law_bc63_1 x2 M = some z) : V l g (wM b) m_X10_law 63 [(0, .ref (b + 0)), (2, .int x2)] [] M (some (.int z.1)) z.2 := by
  unfold f_X10_law_bc63_1 at hf
  refine V_aload_n (Y := m_X10_law) (pc := 63) 0 dX10_law_63 rfl ?_
  refine V_grL (Y := m_X10_law) (pc := 64) (x := 1) 0 kX10 sM_0 (by decide +kernel) rfl rfl tw_1070 dX10_law_64 ?_
  refine V_iload_n (Y := m_X10_law) (pc := 67) 1 dX10_law_67 rfl ?_
  refine V_iconst (Y := m_X10_law) (pc := 68) (x := (2 : Int32)) dX10_law_68 (by decide +kernel) ?_
  refine V_iadd (Y := m_X10_law) (pc := 69) dX10_law_69 ?_
  refine V_aload_n (Y := m_X10_law) (pc := 70) 0 dX10_law_70 rfl ?_
  refine V_gi (Y := m_X10_law) (pc := 71) 21 kX10 sM_0 (by decide +kernel) rfl tw_1091 dX10_law_71 ?_
  obtain ⟨hi1, hf⟩ := g_if hf
  refine V_iast (Y := m_X10_law) (pc := 74) sM_1 hi1 dX10_law_74 ?_
  refine V_aload_n (Y := m_X10_law) (pc := 75) 0 dX10_law_75 rfl ?_
  refine V_grL (Y := m_X10_law) (pc := 76) (x := 1) 0 kX10 sM_0 (by decide +kernel) rfl rfl tw_1070 dX10_law_76 ?_
  refine V_iconst (Y := m_X10_law) (pc := 79) (x := (1 : Int32)) dX10_law_79 (by decide +kernel) ?_
  refine V_dup2 (Y := m_X10_law) (pc := 80) dX10_law_80 rfl rfl ?_
  refine V_ialdL (Y := m_X10_law) (pc := 81) (j := 1) sM_1 (by decide +kernel) rfl dX10_law_81 ?_
  refine V_iconst (Y := m_X10_law) (pc := 82) (x := (1 : Int32)) dX10_law_82 (by decide +kernel) ?_
  refine V_iadd (Y := m_X10_law) (pc := 83) dX10_law_83 ?_
  refine V_iastL (Y := m_X10_law) (pc := 84) (j := 1) sM_1 (by decide +kernel) rfl dX10_law_84 ?_
  exact V_sub [0] rfl (ok_X10_law_bc85_2   (mset (mset M 1 (ix (x2 + (2 : Int32))) (M 0 21)) 1 1 (((mset M 1 (ix (x2 + (2 : Int32))) (M 0 21)) 1 1) + (1 : Int32))) z  hf)
def f_X10_law_b0   (M : Mem) : Option (Int32 × Mem) :=
  (f_X10_parse  M).bind fun q1 =>
  if 0 ≤ q1.1 then
    if (q1.2 1 1) = (14 : Int32) then
      some ((-1000000003 : Int32), q1.2)
    else
      (f_X10_textAt (q1.2 1 1) q1.2).bind fun q2 =>
      if ixb (q2.1 + (0 : Int32)) 3300 = true then
      if ixb (q2.1 + (1 : Int32)) 3300 = true then
      f_X10_law_bc63_1  q2.1 (mset (mset q2.2 1 (ix (q2.1 + (0 : Int32))) q1.1) 1 (ix (q2.1 + (1 : Int32))) ((mset q2.2 1 (ix (q2.1 + (0 : Int32))) q1.1) 0 23))
      else none
      else none
  else
    some (((-100 : Int32) - (q1.2 0 14)), q1.2)
set_option maxRecDepth 20000 in
set_option maxHeartbeats 4000000 in
theorem ok_X10_law_b0 {l : Launch} {g : Gam} {b : Nat}    (M : Mem) (z : Int32 × Mem)  (hf : f_X10_law_b0  M = some z) : V l g (wM b) m_X10_law 0 [(0, .ref (b + 0))] [] M (some (.int z.1)) z.2 := by
  unfold f_X10_law_b0 at hf
  refine V_aload_n (Y := m_X10_law) (pc := 0) 0 dX10_law_0 rfl ?_
  obtain ⟨q1, hq1, hf⟩ := g_bind hf
  refine V_cVi (Y := m_X10_law) (pc := 1) (As := []) yf_X10_parse kX10 sM_0 (by decide +kernel) (ok_X10_parse  M _  hq1) tw_1332 tw_31 tw_1330 rfl rfl (Nat.le_of_ble_eq_true rfl) dX10_law_1 ?_
  refine V_istore_n (Y := m_X10_law) (pc := 4) [(1, .int q1.1), (0, .ref (b + 0))] dX10_law_4 (by decide +kernel) rfl ?_
  refine V_iload_n (Y := m_X10_law) (pc := 5) 0 dX10_law_5 rfl ?_
  refine V_if_ge (Y := m_X10_law) (pc := 6) (tgt := 17) dX10_law_6 (by decide +kernel) hf (fun hf => ?_) (fun hf => ?_)
  · refine V_aload_n (Y := m_X10_law) (pc := 17) 1 dX10_law_17 rfl ?_
    refine V_grL (Y := m_X10_law) (pc := 18) (x := 1) 0 kX10 sM_0 (by decide +kernel) rfl rfl tw_1070 dX10_law_18 ?_
    refine V_iconst (Y := m_X10_law) (pc := 21) (x := (1 : Int32)) dX10_law_21 (by decide +kernel) ?_
    refine V_ialdL (Y := m_X10_law) (pc := 22) (j := 1) sM_1 (by decide +kernel) rfl dX10_law_22 ?_
    refine V_bipush (Y := m_X10_law) (pc := 23) (x := (14 : Int32)) dX10_law_23 (by decide +kernel) ?_
    refine V_icmp_ne (Y := m_X10_law) (pc := 25) (tgt := 31) dX10_law_25 (by decide +kernel) hf (fun hf => ?_) (fun hf => ?_)
    · refine V_aload_n (Y := m_X10_law) (pc := 31) 1 dX10_law_31 rfl ?_
      refine V_aload_n (Y := m_X10_law) (pc := 32) 1 dX10_law_32 rfl ?_
      refine V_grL (Y := m_X10_law) (pc := 33) (x := 1) 0 kX10 sM_0 (by decide +kernel) rfl rfl tw_1070 dX10_law_33 ?_
      refine V_iconst (Y := m_X10_law) (pc := 36) (x := (1 : Int32)) dX10_law_36 (by decide +kernel) ?_
      refine V_ialdL (Y := m_X10_law) (pc := 37) (j := 1) sM_1 (by decide +kernel) rfl dX10_law_37 ?_
      obtain ⟨q2, hq2, hf⟩ := g_bind hf
      refine V_cVi (Y := m_X10_law) (pc := 38) (As := [.int (q1.2 1 1)]) yf_X10_textAt kX10 sM_0 (by decide +kernel) (ok_X10_textAt (q1.2 1 1) q1.2 _  hq2) tw_1268 tw_25 tw_1266 rfl rfl (Nat.le_of_ble_eq_true rfl) dX10_law_38 ?_
      refine V_istore_n (Y := m_X10_law) (pc := 41) [(2, .int q2.1), (1, .int q1.1), (0, .ref (b + 0))] dX10_law_41 (by decide +kernel) rfl ?_
      refine V_aload_n (Y := m_X10_law) (pc := 42) 2 dX10_law_42 rfl ?_
      refine V_grL (Y := m_X10_law) (pc := 43) (x := 1) 0 kX10 sM_0 (by decide +kernel) rfl rfl tw_1070 dX10_law_43 ?_
      refine V_iload_n (Y := m_X10_law) (pc := 46) 0 dX10_law_46 rfl ?_
      refine V_iconst (Y := m_X10_law) (pc := 47) (x := (0 : Int32)) dX10_law_47 (by decide +kernel) ?_
      refine V_iadd (Y := m_X10_law) (pc := 48) dX10_law_48 ?_
      refine V_iload_n (Y := m_X10_law) (pc := 49) 1 dX10_law_49 rfl ?_
      obtain ⟨hi3, hf⟩ := g_if hf
      refine V_iast (Y := m_X10_law) (pc := 50) sM_1 hi3 dX10_law_50 ?_
      refine V_aload_n (Y := m_X10_law) (pc := 51) 2 dX10_law_51 rfl ?_
      refine V_grL (Y := m_X10_law) (pc := 52) (x := 1) 0 kX10 sM_0 (by decide +kernel) rfl rfl tw_1070 dX10_law_52 ?_
      refine V_iload_n (Y := m_X10_law) (pc := 55) 0 dX10_law_55 rfl ?_
      refine V_iconst (Y := m_X10_law) (pc := 56) (x := (1 : Int32)) dX10_law_56 (by decide +kernel) ?_
      refine V_iadd (Y := m_X10_law) (pc := 57) dX10_law_57 ?_
      refine V_aload_n (Y := m_X10_law) (pc := 58) 2 dX10_law_58 rfl ?_
      refine V_gi (Y := m_X10_law) (pc := 59) 23 kX10 sM_0 (by decide +kernel) rfl tw_1093 dX10_law_59 ?_
      obtain ⟨hi4, hf⟩ := g_if hf
      refine V_iast (Y := m_X10_law) (pc := 62) sM_1 hi4 dX10_law_62 ?_
      exact V_sub [2, 0] rfl (ok_X10_law_bc63_1  q2.1 (mset (mset q2.2 1 (ix (q2.1 + (0 : Int32))) q1.1) 1 (ix (q2.1 + (1 : Int32))) ((mset q2.2 1 (ix (q2.1 + (0 : Int32))) q1.1) 0 23)) z  hf)
    · refine V_ldc (Y := m_X10_law) (pc := 28) (x := (-1000000003 : Int32)) dX10_law_28 tw_1225 ?_
      obtain rfl := Option.some.inj hf
      exact V_iret (Y := m_X10_law) rfl dX10_law_30
  · refine V_bipush (Y := m_X10_law) (pc := 9) (x := (-100 : Int32)) dX10_law_9 (by decide +kernel) ?_
    refine V_aload_n (Y := m_X10_law) (pc := 11) 1 dX10_law_11 rfl ?_
    refine V_gi (Y := m_X10_law) (pc := 12) 14 kX10 sM_0 (by decide +kernel) rfl tw_1084 dX10_law_12 ?_
    refine V_isub (Y := m_X10_law) (pc := 15) dX10_law_15 ?_
    obtain rfl := Option.some.inj hf
    exact V_iret (Y := m_X10_law) rfl dX10_law_16
def f_X10_law  (M : Mem) : Option (Int32 × Mem) := f_X10_law_b0  M
set_option maxRecDepth 20000 in
set_option maxHeartbeats 4000000 in
theorem ok_X10_law {l : Launch} {g : Gam} {b : Nat} : ∀  (M : Mem) (z : Int32 × Mem), f_X10_law  M = some z → Cn l g (wM b) m_X10_law [.ref (b + 0)] M (some (.int z.1)) z.2 := fun  M z  hf => Cn_of (by decide +kernel) (Nat.le_of_ble_eq_true rfl) (V_sub [0] rfl (ok_X10_law_b0  M z  hf))

abbrev m_X10_of : Mth := (yX10_of, cX10_of, 4, some .int, 3)
theorem yf_X10_of : YF m_X10_of 2 := ⟨tw_1400, tw_75, by decide +kernel, by decide +kernel⟩
def f_X10_of_b0  (x1 : Int32) (x2 : Int32) (M : Mem) : Option (Int32 × Mem) :=
  (f_X10_isText x1 M).bind fun q1 =>
  if q1.1 = 0 then
    some ((-1000000001 : Int32), q1.2)
  else
    (f_X10_isIn x2.toInt64 (0 : Int64) (2 : Int64) q1.2).bind fun q2 =>
    if q2.1 = 0 then
      some ((-1000000001 : Int32), q2.2)
    else
      (f_X10_textAt x1 q2.2).bind fun q3 =>
      if ixb q3.1 3300 = true then
      if x2 = 0 then
        some (((q3.2 1 (ix q3.1)) / (3 : Int32)), q3.2)
      else
        if x2 = (1 : Int32) then
          some ((irem (q3.2 1 (ix q3.1)) (3 : Int32)), q3.2)
        else
          (f_X10_textAt x1 q3.2).bind fun q5 =>
          if ixb (q5.1 + (1 : Int32)) 3300 = true then
          some ((q5.2 1 (ix (q5.1 + (1 : Int32)))), q5.2)
          else none
      else none
set_option maxRecDepth 20000 in
set_option maxHeartbeats 4000000 in
theorem ok_X10_of_b0 {l : Launch} {g : Gam} {b : Nat}   (x1 : Int32) (x2 : Int32) (M : Mem) (z : Int32 × Mem)  (hf : f_X10_of_b0 x1 x2 M = some z) : V l g (wM b) m_X10_of 0 [(0, .ref (b + 0)), (1, .int x1), (2, .int x2)] [] M (some (.int z.1)) z.2 := by
  unfold f_X10_of_b0 at hf
  refine V_aload_n (Y := m_X10_of) (pc := 0) 0 dX10_of_0 rfl ?_
  refine V_iload_n (Y := m_X10_of) (pc := 1) 1 dX10_of_1 rfl ?_
  obtain ⟨q1, hq1, hf⟩ := g_bind hf
  refine V_cVi (Y := m_X10_of) (pc := 2) (As := [.int x1]) yf_X10_isText kX10 sM_0 (by decide +kernel) (ok_X10_isText x1 M _  hq1) tw_1403 tw_46 tw_1401 rfl rfl (Nat.le_of_ble_eq_true rfl) dX10_of_2 ?_
  refine V_if_eq (Y := m_X10_of) (pc := 5) (tgt := 20) dX10_of_5 (by decide +kernel) hf (fun hf => ?_) (fun hf => ?_)
  · refine V_ldc (Y := m_X10_of) (pc := 20) (x := (-1000000001 : Int32)) dX10_of_20 tw_1224 ?_
    obtain rfl := Option.some.inj hf
    exact V_iret (Y := m_X10_of) rfl dX10_of_22
  · refine V_iload_n (Y := m_X10_of) (pc := 8) 2 dX10_of_8 rfl ?_
    refine V_i2l (Y := m_X10_of) (pc := 9) dX10_of_9 ?_
    refine V_lconst (Y := m_X10_of) (pc := 10) (x := (0 : Int64)) dX10_of_10 (by decide +kernel) ?_
    refine V_ldc2 (Y := m_X10_of) (pc := 11) (x := (2 : Int64)) dX10_of_11 tw_1405 ?_
    obtain ⟨q2, hq2, hf⟩ := g_bind hf
    refine V_cSi (Y := m_X10_of) (pc := 14) (As := [.long x2.toInt64, .long (0 : Int64), .long (2 : Int64)]) yf_X10_isIn (by decide +kernel) (ok_X10_isIn x2.toInt64 (0 : Int64) (2 : Int64) q1.2 _  hq2) tw_1218 tw_1217 rfl rfl (Nat.le_of_ble_eq_true rfl) dX10_of_14 ?_
    refine V_if_ne (Y := m_X10_of) (pc := 17) (tgt := 23) dX10_of_17 (by decide +kernel) hf (fun hf => ?_) (fun hf => ?_)
    · refine V_aload_n (Y := m_X10_of) (pc := 23) 0 dX10_of_23 rfl ?_
      refine V_grL (Y := m_X10_of) (pc := 24) (x := 1) 0 kX10 sM_0 (by decide +kernel) rfl rfl tw_1070 dX10_of_24 ?_
      refine V_aload_n (Y := m_X10_of) (pc := 27) 0 dX10_of_27 rfl ?_
      refine V_iload_n (Y := m_X10_of) (pc := 28) 1 dX10_of_28 rfl ?_
      obtain ⟨q3, hq3, hf⟩ := g_bind hf
      refine V_cVi (Y := m_X10_of) (pc := 29) (As := [.int x1]) yf_X10_textAt kX10 sM_0 (by decide +kernel) (ok_X10_textAt x1 q2.2 _  hq3) tw_1268 tw_25 tw_1266 rfl rfl (Nat.le_of_ble_eq_true rfl) dX10_of_29 ?_
      obtain ⟨hi4, hf⟩ := g_if hf
      refine V_iald (Y := m_X10_of) (pc := 32) sM_1 hi4 dX10_of_32 ?_
      refine V_istore_n (Y := m_X10_of) (pc := 33) [(3, .int (q3.2 1 (ix q3.1))), (0, .ref (b + 0)), (1, .int x1), (2, .int x2)] dX10_of_33 (by decide +kernel) rfl ?_
      refine V_iload_n (Y := m_X10_of) (pc := 34) 3 dX10_of_34 rfl ?_
      refine V_if_ne (Y := m_X10_of) (pc := 35) (tgt := 44) dX10_of_35 (by decide +kernel) hf (fun hf => ?_) (fun hf => ?_)
      · refine V_iload_n (Y := m_X10_of) (pc := 44) 3 dX10_of_44 rfl ?_
        refine V_iconst (Y := m_X10_of) (pc := 45) (x := (1 : Int32)) dX10_of_45 (by decide +kernel) ?_
        refine V_icmp_ne (Y := m_X10_of) (pc := 46) (tgt := 55) dX10_of_46 (by decide +kernel) hf (fun hf => ?_) (fun hf => ?_)
        · refine V_aload_n (Y := m_X10_of) (pc := 55) 1 dX10_of_55 rfl ?_
          refine V_grL (Y := m_X10_of) (pc := 56) (x := 1) 0 kX10 sM_0 (by decide +kernel) rfl rfl tw_1070 dX10_of_56 ?_
          refine V_aload_n (Y := m_X10_of) (pc := 59) 1 dX10_of_59 rfl ?_
          refine V_iload_n (Y := m_X10_of) (pc := 60) 2 dX10_of_60 rfl ?_
          obtain ⟨q5, hq5, hf⟩ := g_bind hf
          refine V_cVi (Y := m_X10_of) (pc := 61) (As := [.int x1]) yf_X10_textAt kX10 sM_0 (by decide +kernel) (ok_X10_textAt x1 q3.2 _  hq5) tw_1268 tw_25 tw_1266 rfl rfl (Nat.le_of_ble_eq_true rfl) dX10_of_61 ?_
          refine V_iconst (Y := m_X10_of) (pc := 64) (x := (1 : Int32)) dX10_of_64 (by decide +kernel) ?_
          refine V_iadd (Y := m_X10_of) (pc := 65) dX10_of_65 ?_
          obtain ⟨hi6, hf⟩ := g_if hf
          refine V_iald (Y := m_X10_of) (pc := 66) sM_1 hi6 dX10_of_66 ?_
          obtain rfl := Option.some.inj hf
          exact V_iret (Y := m_X10_of) rfl dX10_of_67
        · refine V_iload_n (Y := m_X10_of) (pc := 49) 0 dX10_of_49 rfl ?_
          refine V_iconst (Y := m_X10_of) (pc := 50) (x := (3 : Int32)) dX10_of_50 (by decide +kernel) ?_
          refine V_irem (Y := m_X10_of) (pc := 51) dX10_of_51 (by decide +kernel) ?_
          refine V_goto (Y := m_X10_of) (pc := 52) (tgt := 67) dX10_of_52 (by decide +kernel) ?_
          obtain rfl := Option.some.inj hf
          exact V_iret (Y := m_X10_of) rfl dX10_of_67
      · refine V_iload_n (Y := m_X10_of) (pc := 38) 0 dX10_of_38 rfl ?_
        refine V_iconst (Y := m_X10_of) (pc := 39) (x := (3 : Int32)) dX10_of_39 (by decide +kernel) ?_
        refine V_idiv (Y := m_X10_of) (pc := 40) dX10_of_40 (by decide +kernel) ?_
        refine V_goto (Y := m_X10_of) (pc := 41) (tgt := 67) dX10_of_41 (by decide +kernel) ?_
        obtain rfl := Option.some.inj hf
        exact V_iret (Y := m_X10_of) rfl dX10_of_67
    · refine V_ldc (Y := m_X10_of) (pc := 20) (x := (-1000000001 : Int32)) dX10_of_20 tw_1224 ?_
      obtain rfl := Option.some.inj hf
      exact V_iret (Y := m_X10_of) rfl dX10_of_22
def f_X10_of (x1 : Int32) (x2 : Int32) (M : Mem) : Option (Int32 × Mem) := f_X10_of_b0 x1 x2 M
set_option maxRecDepth 20000 in
set_option maxHeartbeats 4000000 in
theorem ok_X10_of {l : Launch} {g : Gam} {b : Nat} : ∀ (x1 : Int32) (x2 : Int32) (M : Mem) (z : Int32 × Mem), f_X10_of x1 x2 M = some z → Cn l g (wM b) m_X10_of [.ref (b + 0), .int x1, .int x2] M (some (.int z.1)) z.2 := fun x1 x2 M z  hf => Cn_of (by decide +kernel) (Nat.le_of_ble_eq_true rfl) (V_sub [0, 1, 2] rfl (ok_X10_of_b0 x1 x2 M z  hf))

abbrev m_X10_why : Mth := (yX10_why, cX10_why, 3, some .int, 3)
theorem yf_X10_why : YF m_X10_why 2 := ⟨tw_1409, tw_75, by decide +kernel, by decide +kernel⟩
def f_X10_why_b0  (x1 : Int32) (x2 : Int32) (M : Mem) : Option (Int32 × Mem) :=
  (f_X10_isVoyage x1 M).bind fun q1 =>
  if q1.1 = 0 then
    some ((-1000000001 : Int32), q1.2)
  else
    (f_X10_isIn x2.toInt64 (0 : Int64) (2 : Int64) q1.2).bind fun q2 =>
    if q2.1 = 0 then
      some ((-1000000001 : Int32), q2.2)
    else
      (f_X10_counts x1 x2 q2.2).bind fun q3 =>
      (f_X10_orNone q3.1 q3.2).bind fun q4 =>
      some (q4.1, q4.2)
set_option maxRecDepth 20000 in
set_option maxHeartbeats 4000000 in
theorem ok_X10_why_b0 {l : Launch} {g : Gam} {b : Nat}   (x1 : Int32) (x2 : Int32) (M : Mem) (z : Int32 × Mem)  (hf : f_X10_why_b0 x1 x2 M = some z) : V l g (wM b) m_X10_why 0 [(0, .ref (b + 0)), (1, .int x1), (2, .int x2)] [] M (some (.int z.1)) z.2 := by
  unfold f_X10_why_b0 at hf
  refine V_iload_n (Y := m_X10_why) (pc := 0) 1 dX10_why_0 rfl ?_
  obtain ⟨q1, hq1, hf⟩ := g_bind hf
  refine V_cSi (Y := m_X10_why) (pc := 1) (As := [.int x1]) yf_X10_isVoyage (by decide +kernel) (ok_X10_isVoyage x1 M _  hq1) tw_1411 tw_1410 rfl rfl (Nat.le_of_ble_eq_true rfl) dX10_why_1 ?_
  refine V_if_eq (Y := m_X10_why) (pc := 4) (tgt := 31) dX10_why_4 (by decide +kernel) hf (fun hf => ?_) (fun hf => ?_)
  · refine V_ldc (Y := m_X10_why) (pc := 31) (x := (-1000000001 : Int32)) dX10_why_31 tw_1224 ?_
    obtain rfl := Option.some.inj hf
    exact V_iret (Y := m_X10_why) rfl dX10_why_33
  · refine V_iload_n (Y := m_X10_why) (pc := 7) 2 dX10_why_7 rfl ?_
    refine V_i2l (Y := m_X10_why) (pc := 8) dX10_why_8 ?_
    refine V_lconst (Y := m_X10_why) (pc := 9) (x := (0 : Int64)) dX10_why_9 (by decide +kernel) ?_
    refine V_ldc2 (Y := m_X10_why) (pc := 10) (x := (2 : Int64)) dX10_why_10 tw_1405 ?_
    obtain ⟨q2, hq2, hf⟩ := g_bind hf
    refine V_cSi (Y := m_X10_why) (pc := 13) (As := [.long x2.toInt64, .long (0 : Int64), .long (2 : Int64)]) yf_X10_isIn (by decide +kernel) (ok_X10_isIn x2.toInt64 (0 : Int64) (2 : Int64) q1.2 _  hq2) tw_1218 tw_1217 rfl rfl (Nat.le_of_ble_eq_true rfl) dX10_why_13 ?_
    refine V_if_eq (Y := m_X10_why) (pc := 16) (tgt := 31) dX10_why_16 (by decide +kernel) hf (fun hf => ?_) (fun hf => ?_)
    · refine V_ldc (Y := m_X10_why) (pc := 31) (x := (-1000000001 : Int32)) dX10_why_31 tw_1224 ?_
      obtain rfl := Option.some.inj hf
      exact V_iret (Y := m_X10_why) rfl dX10_why_33
    · refine V_aload_n (Y := m_X10_why) (pc := 19) 0 dX10_why_19 rfl ?_
      refine V_iload_n (Y := m_X10_why) (pc := 20) 1 dX10_why_20 rfl ?_
      refine V_iload_n (Y := m_X10_why) (pc := 21) 2 dX10_why_21 rfl ?_
      obtain ⟨q3, hq3, hf⟩ := g_bind hf
      refine V_cVi (Y := m_X10_why) (pc := 22) (As := [.int x1, .int x2]) yf_X10_counts kX10 sM_0 (by decide +kernel) (ok_X10_counts x1 x2 q2.2 _  hq3) tw_1264 tw_24 tw_1262 rfl rfl (Nat.le_of_ble_eq_true rfl) dX10_why_22 ?_
      obtain ⟨q4, hq4, hf⟩ := g_bind hf
      refine V_cSi (Y := m_X10_why) (pc := 25) (As := [.int q3.1]) yf_X10_orNone (by decide +kernel) (ok_X10_orNone q3.1 q3.2 _  hq4) tw_1247 tw_1246 rfl rfl (Nat.le_of_ble_eq_true rfl) dX10_why_25 ?_
      refine V_goto (Y := m_X10_why) (pc := 28) (tgt := 33) dX10_why_28 (by decide +kernel) ?_
      obtain rfl := Option.some.inj hf
      exact V_iret (Y := m_X10_why) rfl dX10_why_33
def f_X10_why (x1 : Int32) (x2 : Int32) (M : Mem) : Option (Int32 × Mem) := f_X10_why_b0 x1 x2 M
set_option maxRecDepth 20000 in
set_option maxHeartbeats 4000000 in
theorem ok_X10_why {l : Launch} {g : Gam} {b : Nat} : ∀ (x1 : Int32) (x2 : Int32) (M : Mem) (z : Int32 × Mem), f_X10_why x1 x2 M = some z → Cn l g (wM b) m_X10_why [.ref (b + 0), .int x1, .int x2] M (some (.int z.1)) z.2 := fun x1 x2 M z  hf => Cn_of (by decide +kernel) (Nat.le_of_ble_eq_true rfl) (V_sub [0, 1, 2] rfl (ok_X10_why_b0 x1 x2 M z  hf))

abbrev m_X10_find : Mth := (yX10_find, cX10_find, 5, none, 6)
theorem yf_X10_find : YF m_X10_find 1 := ⟨tw_1423, tw_75, by decide +kernel, by decide +kernel⟩
def f_X10_find_b150 (k31 : Int32 → Int32 → Mem → Option (Int32 × Mem)) (x1 : Int32) (x2 : Int32) (M : Mem) : Option (Int32 × Mem) :=
  k31 x1 (x2 + (1 : Int32)) M
set_option maxRecDepth 20000 in
set_option maxHeartbeats 4000000 in
theorem ok_X10_find_b150 {l : Launch} {g : Gam} {b : Nat} (k31 : Int32 → Int32 → Mem → Option (Int32 × Mem)) (hk31 : ∀ (x1 : Int32) (x2 : Int32) (M : Mem) (z : Int32 × Mem), k31 x1 x2 M = some z → V l g (wM b) m_X10_find 31 [(0, .ref (b + 0)), (1, .int x1), (2, .int x2)] [] M none z.2) (x1 : Int32) (x2 : Int32) (M : Mem) (z : Int32 × Mem)  (hf : f_X10_find_b150 k31 x1 x2 M = some z) : V l g (wM b) m_X10_find 150 [(0, .ref (b + 0)), (1, .int x1), (2, .int x2)] [] M none z.2 := by
  unfold f_X10_find_b150 at hf
  refine V_iinc (Y := m_X10_find) (pc := 150) (y := (x2 + (1 : Int32))) 2 [(2, .int (x2 + (1 : Int32))), (0, .ref (b + 0)), (1, .int x1)] dX10_find_150 rfl rfl (by decide +kernel) rfl ?_
  refine V_goto (Y := m_X10_find) (pc := 153) (tgt := 31) dX10_find_153 (by decide +kernel) ?_
  exact V_sub [1, 2, 0] rfl (hk31 x1 (x2 + (1 : Int32)) M z  hf)
def f_X10_find_b97 (k31 : Int32 → Int32 → Mem → Option (Int32 × Mem)) (x1 : Int32) (x2 : Int32) (x3 : Int32) (x4 : Int32) (s0 : Int32) (M : Mem) : Option (Int32 × Mem) :=
  (f_X10_least ((mset M 0 27 s0) 0 28) (x3 + x4) (mset M 0 27 s0)).bind fun q1 =>
  (f_X10_field x2 (0 : Int32) (mset q1.2 0 28 q1.1)).bind fun q2 =>
  (f_X10_worthOf q2.1 q2.2).bind fun q3 =>
  (f_X10_field x2 (1 : Int32) (mset q3.2 0 29 (((mset q1.2 0 28 q1.1) 0 29) + q3.1))).bind fun q4 =>
  f_X10_find_b150 k31 x1 x2 (mset q4.2 0 30 (((mset q3.2 0 29 (((mset q1.2 0 28 q1.1) 0 29) + q3.1)) 0 30) ||| ((1 : Int32) <<< (q4.1 &&& 31))))
set_option maxRecDepth 20000 in
set_option maxHeartbeats 4000000 in
theorem ok_X10_find_b97 {l : Launch} {g : Gam} {b : Nat} (k31 : Int32 → Int32 → Mem → Option (Int32 × Mem)) (hk31 : ∀ (x1 : Int32) (x2 : Int32) (M : Mem) (z : Int32 × Mem), k31 x1 x2 M = some z → V l g (wM b) m_X10_find 31 [(0, .ref (b + 0)), (1, .int x1), (2, .int x2)] [] M none z.2) (x1 : Int32) (x2 : Int32) (x3 : Int32) (x4 : Int32) (s0 : Int32) (M : Mem) (z : Int32 × Mem)  (hf : f_X10_find_b97 k31 x1 x2 x3 x4 s0 M = some z) : V l g (wM b) m_X10_find 97 [(0, .ref (b + 0)), (1, .int x1), (2, .int x2), (3, .int x3), (4, .int x4)] [.int s0, .ref (b + 0)] M none z.2 := by
  unfold f_X10_find_b97 at hf
  refine V_pi (Y := m_X10_find) (pc := 97) 27 kX10 sM_0 (by decide +kernel) rfl rfl rfl tw_1097 dX10_find_97 ?_
  refine V_aload_n (Y := m_X10_find) (pc := 100) 0 dX10_find_100 rfl ?_
  refine V_aload_n (Y := m_X10_find) (pc := 101) 0 dX10_find_101 rfl ?_
  refine V_gi (Y := m_X10_find) (pc := 102) 28 kX10 sM_0 (by decide +kernel) rfl tw_1098 dX10_find_102 ?_
  refine V_iload_n (Y := m_X10_find) (pc := 105) 3 dX10_find_105 rfl ?_
  refine V_iload (Y := m_X10_find) (pc := 106) 4 dX10_find_106 rfl ?_
  refine V_iadd (Y := m_X10_find) (pc := 108) dX10_find_108 ?_
  obtain ⟨q1, hq1, hf⟩ := g_bind hf
  refine V_cSi (Y := m_X10_find) (pc := 109) (As := [.int ((mset M 0 27 s0) 0 28), .int (x3 + x4)]) yf_X10_least (by decide +kernel) (ok_X10_least ((mset M 0 27 s0) 0 28) (x3 + x4) (mset M 0 27 s0) _  hq1) tw_1427 tw_1426 rfl rfl (Nat.le_of_ble_eq_true rfl) dX10_find_109 ?_
  refine V_pi (Y := m_X10_find) (pc := 112) 28 kX10 sM_0 (by decide +kernel) rfl rfl rfl tw_1098 dX10_find_112 ?_
  refine V_aload_n (Y := m_X10_find) (pc := 115) 0 dX10_find_115 rfl ?_
  refine V_dup (Y := m_X10_find) (pc := 116) dX10_find_116 rfl ?_
  refine V_gi (Y := m_X10_find) (pc := 117) 29 kX10 sM_0 (by decide +kernel) rfl tw_1099 dX10_find_117 ?_
  refine V_aload_n (Y := m_X10_find) (pc := 120) 0 dX10_find_120 rfl ?_
  refine V_iload_n (Y := m_X10_find) (pc := 121) 2 dX10_find_121 rfl ?_
  refine V_iconst (Y := m_X10_find) (pc := 122) (x := (0 : Int32)) dX10_find_122 (by decide +kernel) ?_
  obtain ⟨q2, hq2, hf⟩ := g_bind hf
  refine V_cVi (Y := m_X10_find) (pc := 123) (As := [.int x2, .int (0 : Int32)]) yf_X10_field kX10 sM_0 (by decide +kernel) (ok_X10_field x2 (0 : Int32) (mset q1.2 0 28 q1.1) _  hq2) tw_1244 tw_20 tw_1242 rfl rfl (Nat.le_of_ble_eq_true rfl) dX10_find_123 ?_
  obtain ⟨q3, hq3, hf⟩ := g_bind hf
  refine V_cSi (Y := m_X10_find) (pc := 126) (As := [.int q2.1]) yf_X10_worthOf (by decide +kernel) (ok_X10_worthOf q2.1 q2.2 _  hq3) tw_1293 tw_1292 rfl rfl (Nat.le_of_ble_eq_true rfl) dX10_find_126 ?_
  refine V_iadd (Y := m_X10_find) (pc := 129) dX10_find_129 ?_
  refine V_pi (Y := m_X10_find) (pc := 130) 29 kX10 sM_0 (by decide +kernel) rfl rfl rfl tw_1099 dX10_find_130 ?_
  refine V_aload_n (Y := m_X10_find) (pc := 133) 0 dX10_find_133 rfl ?_
  refine V_dup (Y := m_X10_find) (pc := 134) dX10_find_134 rfl ?_
  refine V_gi (Y := m_X10_find) (pc := 135) 30 kX10 sM_0 (by decide +kernel) rfl tw_1100 dX10_find_135 ?_
  refine V_iconst (Y := m_X10_find) (pc := 138) (x := (1 : Int32)) dX10_find_138 (by decide +kernel) ?_
  refine V_aload_n (Y := m_X10_find) (pc := 139) 0 dX10_find_139 rfl ?_
  refine V_iload_n (Y := m_X10_find) (pc := 140) 2 dX10_find_140 rfl ?_
  refine V_iconst (Y := m_X10_find) (pc := 141) (x := (1 : Int32)) dX10_find_141 (by decide +kernel) ?_
  obtain ⟨q4, hq4, hf⟩ := g_bind hf
  refine V_cVi (Y := m_X10_find) (pc := 142) (As := [.int x2, .int (1 : Int32)]) yf_X10_field kX10 sM_0 (by decide +kernel) (ok_X10_field x2 (1 : Int32) (mset q3.2 0 29 (((mset q1.2 0 28 q1.1) 0 29) + q3.1)) _  hq4) tw_1244 tw_20 tw_1242 rfl rfl (Nat.le_of_ble_eq_true rfl) dX10_find_142 ?_
  refine V_ishl (Y := m_X10_find) (pc := 145) dX10_find_145 ?_
  refine V_ior (Y := m_X10_find) (pc := 146) dX10_find_146 ?_
  refine V_pi (Y := m_X10_find) (pc := 147) 30 kX10 sM_0 (by decide +kernel) rfl rfl rfl tw_1100 dX10_find_147 ?_
  exact V_sub [0, 1, 2] rfl (ok_X10_find_b150 k31 hk31 x1 x2 (mset q4.2 0 30 (((mset q3.2 0 29 (((mset q1.2 0 28 q1.1) 0 29) + q3.1)) 0 30) ||| ((1 : Int32) <<< (q4.1 &&& 31)))) z  hf)
def f_X10_find_b31  : Nat → Int32 → Int32 → Mem → Option (Int32 × Mem)
  | 0, _, _, _ => none
  | n + 1, x1, x2, M =>
    if (M 1 0) ≤ x2 then
      some (0, M)
    else
      (f_X10_field x2 (5 : Int32) M).bind fun q1 =>
      if q1.1 = x1 then
        (f_X10_says x2 q1.2).bind fun q2 =>
        (f_X10_spanOf x2 q2.2).bind fun q3 =>
        if (q2.1 - q3.1) ≤ ((mset q3.2 0 26 ((q3.2 0 26) + (1 : Int32))) 0 27) then
          f_X10_find_b97 (f_X10_find_b31  n) x1 x2 q2.1 q3.1 ((mset q3.2 0 26 ((q3.2 0 26) + (1 : Int32))) 0 27) (mset q3.2 0 26 ((q3.2 0 26) + (1 : Int32)))
        else
          f_X10_find_b97 (f_X10_find_b31  n) x1 x2 q2.1 q3.1 (q2.1 - q3.1) (mset q3.2 0 26 ((q3.2 0 26) + (1 : Int32)))
      else
        f_X10_find_b150 (f_X10_find_b31  n) x1 x2 q1.2
set_option maxRecDepth 20000 in
set_option maxHeartbeats 4000000 in
theorem ok_X10_find_b31 {l : Launch} {g : Gam} {b : Nat}   : ∀ (n : Nat) (x1 : Int32) (x2 : Int32) (M : Mem) (z : Int32 × Mem), f_X10_find_b31  n x1 x2 M = some z → V l g (wM b) m_X10_find 31 [(0, .ref (b + 0)), (1, .int x1), (2, .int x2)] [] M none z.2 := by
  intro n
  induction n with
  | zero =>
    intro x1 x2 M z  hf
    cases hf
  | succ n ih =>
    intro x1 x2 M z  hf
    rw [f_X10_find_b31] at hf
    refine V_iload_n (Y := m_X10_find) (pc := 31) 2 dX10_find_31 rfl ?_
    refine V_aload_n (Y := m_X10_find) (pc := 32) 0 dX10_find_32 rfl ?_
    refine V_grL (Y := m_X10_find) (pc := 33) (x := 1) 0 kX10 sM_0 (by decide +kernel) rfl rfl tw_1070 dX10_find_33 ?_
    refine V_iconst (Y := m_X10_find) (pc := 36) (x := (0 : Int32)) dX10_find_36 (by decide +kernel) ?_
    refine V_ialdL (Y := m_X10_find) (pc := 37) (j := 0) sM_1 (by decide +kernel) rfl dX10_find_37 ?_
    refine V_icmp_ge (Y := m_X10_find) (pc := 38) (tgt := 156) dX10_find_38 (by decide +kernel) hf (fun hf => ?_) (fun hf => ?_)
    · obtain rfl := Option.some.inj hf
      exact V_vret (Y := m_X10_find) rfl dX10_find_156
    · refine V_aload_n (Y := m_X10_find) (pc := 41) 0 dX10_find_41 rfl ?_
      refine V_iload_n (Y := m_X10_find) (pc := 42) 2 dX10_find_42 rfl ?_
      refine V_iconst (Y := m_X10_find) (pc := 43) (x := (5 : Int32)) dX10_find_43 (by decide +kernel) ?_
      obtain ⟨q1, hq1, hf⟩ := g_bind hf
      refine V_cVi (Y := m_X10_find) (pc := 44) (As := [.int x2, .int (5 : Int32)]) yf_X10_field kX10 sM_0 (by decide +kernel) (ok_X10_field x2 (5 : Int32) M _  hq1) tw_1244 tw_20 tw_1242 rfl rfl (Nat.le_of_ble_eq_true rfl) dX10_find_44 ?_
      refine V_iload_n (Y := m_X10_find) (pc := 47) 1 dX10_find_47 rfl ?_
      refine V_icmp_ne (Y := m_X10_find) (pc := 48) (tgt := 150) dX10_find_48 (by decide +kernel) hf (fun hf => ?_) (fun hf => ?_)
      · exact V_sub [0, 1, 2] rfl (ok_X10_find_b150 (f_X10_find_b31  n) ih x1 x2 q1.2 z  hf)
      · refine V_aload_n (Y := m_X10_find) (pc := 51) 0 dX10_find_51 rfl ?_
        refine V_iload_n (Y := m_X10_find) (pc := 52) 2 dX10_find_52 rfl ?_
        obtain ⟨q2, hq2, hf⟩ := g_bind hf
        refine V_cVi (Y := m_X10_find) (pc := 53) (As := [.int x2]) yf_X10_says kX10 sM_0 (by decide +kernel) (ok_X10_says x2 q1.2 _  hq2) tw_1252 tw_21 tw_1250 rfl rfl (Nat.le_of_ble_eq_true rfl) dX10_find_53 ?_
        refine V_istore_n (Y := m_X10_find) (pc := 56) [(3, .int q2.1), (0, .ref (b + 0)), (1, .int x1), (2, .int x2)] dX10_find_56 (by decide +kernel) rfl ?_
        refine V_aload_n (Y := m_X10_find) (pc := 57) 1 dX10_find_57 rfl ?_
        refine V_iload_n (Y := m_X10_find) (pc := 58) 3 dX10_find_58 rfl ?_
        obtain ⟨q3, hq3, hf⟩ := g_bind hf
        refine V_cVi (Y := m_X10_find) (pc := 59) (As := [.int x2]) yf_X10_spanOf kX10 sM_0 (by decide +kernel) (ok_X10_spanOf x2 q2.2 _  hq3) tw_1290 tw_29 tw_1288 rfl rfl (Nat.le_of_ble_eq_true rfl) dX10_find_59 ?_
        refine V_istore (Y := m_X10_find) (pc := 62) [(4, .int q3.1), (3, .int q2.1), (0, .ref (b + 0)), (1, .int x1), (2, .int x2)] dX10_find_62 (by decide +kernel) rfl ?_
        refine V_aload_n (Y := m_X10_find) (pc := 64) 2 dX10_find_64 rfl ?_
        refine V_dup (Y := m_X10_find) (pc := 65) dX10_find_65 rfl ?_
        refine V_gi (Y := m_X10_find) (pc := 66) 26 kX10 sM_0 (by decide +kernel) rfl tw_1096 dX10_find_66 ?_
        refine V_iconst (Y := m_X10_find) (pc := 69) (x := (1 : Int32)) dX10_find_69 (by decide +kernel) ?_
        refine V_iadd (Y := m_X10_find) (pc := 70) dX10_find_70 ?_
        refine V_pi (Y := m_X10_find) (pc := 71) 26 kX10 sM_0 (by decide +kernel) rfl rfl rfl tw_1096 dX10_find_71 ?_
        refine V_aload_n (Y := m_X10_find) (pc := 74) 2 dX10_find_74 rfl ?_
        refine V_iload_n (Y := m_X10_find) (pc := 75) 1 dX10_find_75 rfl ?_
        refine V_iload (Y := m_X10_find) (pc := 76) 0 dX10_find_76 rfl ?_
        refine V_isub (Y := m_X10_find) (pc := 78) dX10_find_78 ?_
        refine V_aload_n (Y := m_X10_find) (pc := 79) 2 dX10_find_79 rfl ?_
        refine V_gi (Y := m_X10_find) (pc := 80) 27 kX10 sM_0 (by decide +kernel) rfl tw_1097 dX10_find_80 ?_
        refine V_icmp_le (Y := m_X10_find) (pc := 83) (tgt := 93) dX10_find_83 (by decide +kernel) hf (fun hf => ?_) (fun hf => ?_)
        · refine V_aload_n (Y := m_X10_find) (pc := 93) 2 dX10_find_93 rfl ?_
          refine V_gi (Y := m_X10_find) (pc := 94) 27 kX10 sM_0 (by decide +kernel) rfl tw_1097 dX10_find_94 ?_
          exact V_sub [2, 3, 4, 1, 0] rfl (ok_X10_find_b97 (f_X10_find_b31  n) ih x1 x2 q2.1 q3.1 ((mset q3.2 0 26 ((q3.2 0 26) + (1 : Int32))) 0 27) (mset q3.2 0 26 ((q3.2 0 26) + (1 : Int32))) z  hf)
        · refine V_iload_n (Y := m_X10_find) (pc := 86) 1 dX10_find_86 rfl ?_
          refine V_iload (Y := m_X10_find) (pc := 87) 0 dX10_find_87 rfl ?_
          refine V_isub (Y := m_X10_find) (pc := 89) dX10_find_89 ?_
          refine V_goto (Y := m_X10_find) (pc := 90) (tgt := 97) dX10_find_90 (by decide +kernel) ?_
          exact V_sub [2, 3, 4, 1, 0] rfl (ok_X10_find_b97 (f_X10_find_b31  n) ih x1 x2 q2.1 q3.1 (q2.1 - q3.1) (mset q3.2 0 26 ((q3.2 0 26) + (1 : Int32))) z  hf)
def f_X10_find_bc29_1  (x1 : Int32) (M : Mem) : Option (Int32 × Mem) :=
  f_X10_find_b31  FU x1 (0 : Int32) M
set_option maxRecDepth 20000 in
set_option maxHeartbeats 4000000 in
theorem ok_X10_find_bc29_1 {l : Launch} {g : Gam} {b : Nat}   (x1 : Int32) (M : Mem) (z : Int32 × Mem)  (hf : f_X10_find_bc29_1 x1 M = some z) : V l g (wM b) m_X10_find 29 [(0, .ref (b + 0)), (1, .int x1)] [] M none z.2 := by
  unfold f_X10_find_bc29_1 at hf
  refine V_iconst (Y := m_X10_find) (pc := 29) (x := (0 : Int32)) dX10_find_29 (by decide +kernel) ?_
  refine V_istore_n (Y := m_X10_find) (pc := 30) [(2, .int (0 : Int32)), (0, .ref (b + 0)), (1, .int x1)] dX10_find_30 (by decide +kernel) rfl ?_
  exact V_sub [1, 2, 0] rfl (ok_X10_find_b31  FU x1 (0 : Int32) M z  hf)
def f_X10_find_b0  (x1 : Int32) (M : Mem) : Option (Int32 × Mem) :=
  f_X10_find_bc29_1  x1 (mset (mset (mset (mset (mset M 0 26 (0 : Int32)) 0 27 (-1000000 : Int32)) 0 28 (1000000 : Int32)) 0 29 (0 : Int32)) 0 30 (0 : Int32))
set_option maxRecDepth 20000 in
set_option maxHeartbeats 4000000 in
theorem ok_X10_find_b0 {l : Launch} {g : Gam} {b : Nat}   (x1 : Int32) (M : Mem) (z : Int32 × Mem)  (hf : f_X10_find_b0 x1 M = some z) : V l g (wM b) m_X10_find 0 [(0, .ref (b + 0)), (1, .int x1)] [] M none z.2 := by
  unfold f_X10_find_b0 at hf
  refine V_aload_n (Y := m_X10_find) (pc := 0) 0 dX10_find_0 rfl ?_
  refine V_iconst (Y := m_X10_find) (pc := 1) (x := (0 : Int32)) dX10_find_1 (by decide +kernel) ?_
  refine V_pi (Y := m_X10_find) (pc := 2) 26 kX10 sM_0 (by decide +kernel) rfl rfl rfl tw_1096 dX10_find_2 ?_
  refine V_aload_n (Y := m_X10_find) (pc := 5) 0 dX10_find_5 rfl ?_
  refine V_ldcw (Y := m_X10_find) (pc := 6) (x := (-1000000 : Int32)) dX10_find_6 tw_1424 ?_
  refine V_pi (Y := m_X10_find) (pc := 9) 27 kX10 sM_0 (by decide +kernel) rfl rfl rfl tw_1097 dX10_find_9 ?_
  refine V_aload_n (Y := m_X10_find) (pc := 12) 0 dX10_find_12 rfl ?_
  refine V_ldcw (Y := m_X10_find) (pc := 13) (x := (1000000 : Int32)) dX10_find_13 tw_1425 ?_
  refine V_pi (Y := m_X10_find) (pc := 16) 28 kX10 sM_0 (by decide +kernel) rfl rfl rfl tw_1098 dX10_find_16 ?_
  refine V_aload_n (Y := m_X10_find) (pc := 19) 0 dX10_find_19 rfl ?_
  refine V_iconst (Y := m_X10_find) (pc := 20) (x := (0 : Int32)) dX10_find_20 (by decide +kernel) ?_
  refine V_pi (Y := m_X10_find) (pc := 21) 29 kX10 sM_0 (by decide +kernel) rfl rfl rfl tw_1099 dX10_find_21 ?_
  refine V_aload_n (Y := m_X10_find) (pc := 24) 0 dX10_find_24 rfl ?_
  refine V_iconst (Y := m_X10_find) (pc := 25) (x := (0 : Int32)) dX10_find_25 (by decide +kernel) ?_
  refine V_pi (Y := m_X10_find) (pc := 26) 30 kX10 sM_0 (by decide +kernel) rfl rfl rfl tw_1100 dX10_find_26 ?_
  exact V_sub [0, 1] rfl (ok_X10_find_bc29_1  x1 (mset (mset (mset (mset (mset M 0 26 (0 : Int32)) 0 27 (-1000000 : Int32)) 0 28 (1000000 : Int32)) 0 29 (0 : Int32)) 0 30 (0 : Int32)) z  hf)
def f_X10_find (x1 : Int32) (M : Mem) : Option (Int32 × Mem) := f_X10_find_b0 x1 M
set_option maxRecDepth 20000 in
set_option maxHeartbeats 4000000 in
theorem ok_X10_find {l : Launch} {g : Gam} {b : Nat} : ∀ (x1 : Int32) (M : Mem) (z : Int32 × Mem), f_X10_find x1 M = some z → Cn l g (wM b) m_X10_find [.ref (b + 0), .int x1] M none z.2 := fun x1 M z  hf => Cn_of (by decide +kernel) (Nat.le_of_ble_eq_true rfl) (V_sub [0, 1] rfl (ok_X10_find_b0 x1 M z  hf))

abbrev m_X10_holds : Mth := (yX10_holds, cX10_holds, 2, some .boolean, 7)
theorem yf_X10_holds : YF m_X10_holds 1 := ⟨tw_1433, tw_75, by decide +kernel, by decide +kernel⟩
def f_X10_holds_b0  (x1 : Int32) (M : Mem) : Option (Int32 × Mem) :=
  (f_X10_find x1 M).bind fun q1 =>
  if (q1.2 0 26) ≤ 0 then
    some ((0 : Int32), q1.2)
  else
    if (q1.2 0 28) < (q1.2 0 27) then
      some ((0 : Int32), q1.2)
    else
      some ((1 : Int32), q1.2)
set_option maxRecDepth 20000 in
set_option maxHeartbeats 4000000 in
theorem ok_X10_holds_b0 {l : Launch} {g : Gam} {b : Nat}   (x1 : Int32) (M : Mem) (z : Int32 × Mem)  (hf : f_X10_holds_b0 x1 M = some z) : V l g (wM b) m_X10_holds 0 [(0, .ref (b + 0)), (1, .int x1)] [] M (some (.int z.1)) z.2 := by
  unfold f_X10_holds_b0 at hf
  refine V_aload_n (Y := m_X10_holds) (pc := 0) 0 dX10_holds_0 rfl ?_
  refine V_iload_n (Y := m_X10_holds) (pc := 1) 1 dX10_holds_1 rfl ?_
  obtain ⟨q1, hq1, hf⟩ := g_bind hf
  refine V_cVv (Y := m_X10_holds) (pc := 2) (As := [.int x1]) yf_X10_find kX10 sM_0 (by decide +kernel) (ok_X10_find x1 M _  hq1) tw_1422 tw_47 tw_1420 rfl rfl (Nat.le_of_ble_eq_true rfl) dX10_holds_2 ?_
  refine V_aload_n (Y := m_X10_holds) (pc := 5) 0 dX10_holds_5 rfl ?_
  refine V_gi (Y := m_X10_holds) (pc := 6) 26 kX10 sM_0 (by decide +kernel) rfl tw_1096 dX10_holds_6 ?_
  refine V_if_le (Y := m_X10_holds) (pc := 9) (tgt := 27) dX10_holds_9 (by decide +kernel) hf (fun hf => ?_) (fun hf => ?_)
  · refine V_iconst (Y := m_X10_holds) (pc := 27) (x := (0 : Int32)) dX10_holds_27 (by decide +kernel) ?_
    obtain rfl := Option.some.inj hf
    exact V_zret (Y := m_X10_holds) z01_0 rfl dX10_holds_28
  · refine V_aload_n (Y := m_X10_holds) (pc := 12) 0 dX10_holds_12 rfl ?_
    refine V_gi (Y := m_X10_holds) (pc := 13) 27 kX10 sM_0 (by decide +kernel) rfl tw_1097 dX10_holds_13 ?_
    refine V_aload_n (Y := m_X10_holds) (pc := 16) 0 dX10_holds_16 rfl ?_
    refine V_gi (Y := m_X10_holds) (pc := 17) 28 kX10 sM_0 (by decide +kernel) rfl tw_1098 dX10_holds_17 ?_
    refine V_icmp_gt (Y := m_X10_holds) (pc := 20) (tgt := 27) dX10_holds_20 (by decide +kernel) hf (fun hf => ?_) (fun hf => ?_)
    · refine V_iconst (Y := m_X10_holds) (pc := 27) (x := (0 : Int32)) dX10_holds_27 (by decide +kernel) ?_
      obtain rfl := Option.some.inj hf
      exact V_zret (Y := m_X10_holds) z01_0 rfl dX10_holds_28
    · refine V_iconst (Y := m_X10_holds) (pc := 23) (x := (1 : Int32)) dX10_holds_23 (by decide +kernel) ?_
      refine V_goto (Y := m_X10_holds) (pc := 24) (tgt := 28) dX10_holds_24 (by decide +kernel) ?_
      obtain rfl := Option.some.inj hf
      exact V_zret (Y := m_X10_holds) z01_1 rfl dX10_holds_28
def f_X10_holds (x1 : Int32) (M : Mem) : Option (Int32 × Mem) := f_X10_holds_b0 x1 M
set_option maxRecDepth 20000 in
set_option maxHeartbeats 4000000 in
theorem ok_X10_holds {l : Launch} {g : Gam} {b : Nat} : ∀ (x1 : Int32) (M : Mem) (z : Int32 × Mem), f_X10_holds x1 M = some z → Cn l g (wM b) m_X10_holds [.ref (b + 0), .int x1] M (some (.int z.1)) z.2 := fun x1 M z  hf => Cn_of (by decide +kernel) (Nat.le_of_ble_eq_true rfl) (V_sub [0, 1] rfl (ok_X10_holds_b0 x1 M z  hf))

abbrev m_X10_standsOnOne : Mth := (yX10_standsOnOne, cX10_standsOnOne, 2, some .boolean, 7)
theorem yf_X10_standsOnOne : YF m_X10_standsOnOne 1 := ⟨tw_1437, tw_75, by decide +kernel, by decide +kernel⟩
def f_X10_standsOnOne_b29   (M : Mem) : Option (Int32 × Mem) :=
  some ((1 : Int32), M)
set_option maxRecDepth 20000 in
set_option maxHeartbeats 4000000 in
theorem ok_X10_standsOnOne_b29 {l : Launch} {g : Gam} {b : Nat}    (M : Mem) (z : Int32 × Mem)  (hf : f_X10_standsOnOne_b29  M = some z) : V l g (wM b) m_X10_standsOnOne 29 [] [] M (some (.int z.1)) z.2 := by
  unfold f_X10_standsOnOne_b29 at hf
  refine V_iconst (Y := m_X10_standsOnOne) (pc := 29) (x := (1 : Int32)) dX10_standsOnOne_29 (by decide +kernel) ?_
  refine V_goto (Y := m_X10_standsOnOne) (pc := 30) (tgt := 34) dX10_standsOnOne_30 (by decide +kernel) ?_
  obtain rfl := Option.some.inj hf
  exact V_zret (Y := m_X10_standsOnOne) z01_1 rfl dX10_standsOnOne_34
def f_X10_standsOnOne_b0  (x1 : Int32) (M : Mem) : Option (Int32 × Mem) :=
  (f_X10_find x1 M).bind fun q1 =>
  if (q1.2 0 30) = (1 : Int32) then
    f_X10_standsOnOne_b29   q1.2
  else
    if (q1.2 0 30) = (2 : Int32) then
      f_X10_standsOnOne_b29   q1.2
    else
      if (q1.2 0 30) = (4 : Int32) then
        f_X10_standsOnOne_b29   q1.2
      else
        some ((0 : Int32), q1.2)
set_option maxRecDepth 20000 in
set_option maxHeartbeats 4000000 in
theorem ok_X10_standsOnOne_b0 {l : Launch} {g : Gam} {b : Nat}   (x1 : Int32) (M : Mem) (z : Int32 × Mem)  (hf : f_X10_standsOnOne_b0 x1 M = some z) : V l g (wM b) m_X10_standsOnOne 0 [(0, .ref (b + 0)), (1, .int x1)] [] M (some (.int z.1)) z.2 := by
  unfold f_X10_standsOnOne_b0 at hf
  refine V_aload_n (Y := m_X10_standsOnOne) (pc := 0) 0 dX10_standsOnOne_0 rfl ?_
  refine V_iload_n (Y := m_X10_standsOnOne) (pc := 1) 1 dX10_standsOnOne_1 rfl ?_
  obtain ⟨q1, hq1, hf⟩ := g_bind hf
  refine V_cVv (Y := m_X10_standsOnOne) (pc := 2) (As := [.int x1]) yf_X10_find kX10 sM_0 (by decide +kernel) (ok_X10_find x1 M _  hq1) tw_1422 tw_47 tw_1420 rfl rfl (Nat.le_of_ble_eq_true rfl) dX10_standsOnOne_2 ?_
  refine V_aload_n (Y := m_X10_standsOnOne) (pc := 5) 0 dX10_standsOnOne_5 rfl ?_
  refine V_gi (Y := m_X10_standsOnOne) (pc := 6) 30 kX10 sM_0 (by decide +kernel) rfl tw_1100 dX10_standsOnOne_6 ?_
  refine V_iconst (Y := m_X10_standsOnOne) (pc := 9) (x := (1 : Int32)) dX10_standsOnOne_9 (by decide +kernel) ?_
  refine V_icmp_eq (Y := m_X10_standsOnOne) (pc := 10) (tgt := 29) dX10_standsOnOne_10 (by decide +kernel) hf (fun hf => ?_) (fun hf => ?_)
  · exact V_sub [] rfl (ok_X10_standsOnOne_b29   q1.2 z  hf)
  · refine V_aload_n (Y := m_X10_standsOnOne) (pc := 13) 0 dX10_standsOnOne_13 rfl ?_
    refine V_gi (Y := m_X10_standsOnOne) (pc := 14) 30 kX10 sM_0 (by decide +kernel) rfl tw_1100 dX10_standsOnOne_14 ?_
    refine V_iconst (Y := m_X10_standsOnOne) (pc := 17) (x := (2 : Int32)) dX10_standsOnOne_17 (by decide +kernel) ?_
    refine V_icmp_eq (Y := m_X10_standsOnOne) (pc := 18) (tgt := 29) dX10_standsOnOne_18 (by decide +kernel) hf (fun hf => ?_) (fun hf => ?_)
    · exact V_sub [] rfl (ok_X10_standsOnOne_b29   q1.2 z  hf)
    · refine V_aload_n (Y := m_X10_standsOnOne) (pc := 21) 0 dX10_standsOnOne_21 rfl ?_
      refine V_gi (Y := m_X10_standsOnOne) (pc := 22) 30 kX10 sM_0 (by decide +kernel) rfl tw_1100 dX10_standsOnOne_22 ?_
      refine V_iconst (Y := m_X10_standsOnOne) (pc := 25) (x := (4 : Int32)) dX10_standsOnOne_25 (by decide +kernel) ?_
      refine V_icmp_ne (Y := m_X10_standsOnOne) (pc := 26) (tgt := 33) dX10_standsOnOne_26 (by decide +kernel) hf (fun hf => ?_) (fun hf => ?_)
      · refine V_iconst (Y := m_X10_standsOnOne) (pc := 33) (x := (0 : Int32)) dX10_standsOnOne_33 (by decide +kernel) ?_
        obtain rfl := Option.some.inj hf
        exact V_zret (Y := m_X10_standsOnOne) z01_0 rfl dX10_standsOnOne_34
      · exact V_sub [] rfl (ok_X10_standsOnOne_b29   q1.2 z  hf)
def f_X10_standsOnOne (x1 : Int32) (M : Mem) : Option (Int32 × Mem) := f_X10_standsOnOne_b0 x1 M
set_option maxRecDepth 20000 in
set_option maxHeartbeats 4000000 in
theorem ok_X10_standsOnOne {l : Launch} {g : Gam} {b : Nat} : ∀ (x1 : Int32) (M : Mem) (z : Int32 × Mem), f_X10_standsOnOne x1 M = some z → Cn l g (wM b) m_X10_standsOnOne [.ref (b + 0), .int x1] M (some (.int z.1)) z.2 := fun x1 M z  hf => Cn_of (by decide +kernel) (Nat.le_of_ble_eq_true rfl) (V_sub [0, 1] rfl (ok_X10_standsOnOne_b0 x1 M z  hf))

abbrev m_X10_cape : Mth := (yX10_cape, cX10_cape, 3, some .int, 8)
theorem yf_X10_cape : YF m_X10_cape 2 := ⟨tw_1416, tw_75, by decide +kernel, by decide +kernel⟩
def f_X10_cape_b49  (x1 : Int32) (x2 : Int32) (M : Mem) : Option (Int32 × Mem) :=
  if x2 = (0 : Int32) then
    some ((M 0 26), M)
  else
  if x2 = (1 : Int32) then
    some ((M 0 27), M)
  else
  if x2 = (2 : Int32) then
    some ((M 0 28), M)
  else
  if x2 = (3 : Int32) then
    some (((M 0 28) - (M 0 27)), M)
  else
  if x2 = (4 : Int32) then
    some ((((M 0 27) + (M 0 28)) / (2 : Int32)), M)
  else
  if x2 = (5 : Int32) then
    (f_X10_holds x1 M).bind fun q7 =>
    if q7.1 = 0 then
      some ((0 : Int32), q7.2)
    else
      some ((1 : Int32), q7.2)
  else
  if x2 = (6 : Int32) then
    some ((M 0 29), M)
  else
  (f_X10_standsOnOne x1 M).bind fun q9 =>
  if q9.1 = 0 then
    some ((0 : Int32), q9.2)
  else
    some ((1 : Int32), q9.2)
set_option maxRecDepth 20000 in
set_option maxHeartbeats 4000000 in
theorem ok_X10_cape_b49 {l : Launch} {g : Gam} {b : Nat}   (x1 : Int32) (x2 : Int32) (M : Mem) (z : Int32 × Mem)  (hf : f_X10_cape_b49 x1 x2 M = some z) : V l g (wM b) m_X10_cape 49 [(0, .ref (b + 0)), (1, .int x1), (2, .int x2)] [] M (some (.int z.1)) z.2 := by
  unfold f_X10_cape_b49 at hf
  refine V_iload_n (Y := m_X10_cape) (pc := 49) 2 dX10_cape_49 rfl ?_
  by_cases hc1 : x2 = (0 : Int32)
  · rw [if_pos hc1] at hf
    refine V_tsw (Y := m_X10_cape) (pc := 50) (tgt := 92) (0 : Int32) hc1 dX10_cape_50 (by decide +kernel) ?_
    refine V_aload_n (Y := m_X10_cape) (pc := 92) 0 dX10_cape_92 rfl ?_
    refine V_gi (Y := m_X10_cape) (pc := 93) 26 kX10 sM_0 (by decide +kernel) rfl tw_1096 dX10_cape_93 ?_
    obtain rfl := Option.some.inj hf
    exact V_iret (Y := m_X10_cape) rfl dX10_cape_96
  rw [if_neg hc1] at hf
  by_cases hc2 : x2 = (1 : Int32)
  · rw [if_pos hc2] at hf
    refine V_tsw (Y := m_X10_cape) (pc := 50) (tgt := 97) (1 : Int32) hc2 dX10_cape_50 (by decide +kernel) ?_
    refine V_aload_n (Y := m_X10_cape) (pc := 97) 0 dX10_cape_97 rfl ?_
    refine V_gi (Y := m_X10_cape) (pc := 98) 27 kX10 sM_0 (by decide +kernel) rfl tw_1097 dX10_cape_98 ?_
    obtain rfl := Option.some.inj hf
    exact V_iret (Y := m_X10_cape) rfl dX10_cape_101
  rw [if_neg hc2] at hf
  by_cases hc3 : x2 = (2 : Int32)
  · rw [if_pos hc3] at hf
    refine V_tsw (Y := m_X10_cape) (pc := 50) (tgt := 102) (2 : Int32) hc3 dX10_cape_50 (by decide +kernel) ?_
    refine V_aload_n (Y := m_X10_cape) (pc := 102) 0 dX10_cape_102 rfl ?_
    refine V_gi (Y := m_X10_cape) (pc := 103) 28 kX10 sM_0 (by decide +kernel) rfl tw_1098 dX10_cape_103 ?_
    obtain rfl := Option.some.inj hf
    exact V_iret (Y := m_X10_cape) rfl dX10_cape_106
  rw [if_neg hc3] at hf
  by_cases hc4 : x2 = (3 : Int32)
  · rw [if_pos hc4] at hf
    refine V_tsw (Y := m_X10_cape) (pc := 50) (tgt := 107) (3 : Int32) hc4 dX10_cape_50 (by decide +kernel) ?_
    refine V_aload_n (Y := m_X10_cape) (pc := 107) 0 dX10_cape_107 rfl ?_
    refine V_gi (Y := m_X10_cape) (pc := 108) 28 kX10 sM_0 (by decide +kernel) rfl tw_1098 dX10_cape_108 ?_
    refine V_aload_n (Y := m_X10_cape) (pc := 111) 0 dX10_cape_111 rfl ?_
    refine V_gi (Y := m_X10_cape) (pc := 112) 27 kX10 sM_0 (by decide +kernel) rfl tw_1097 dX10_cape_112 ?_
    refine V_isub (Y := m_X10_cape) (pc := 115) dX10_cape_115 ?_
    obtain rfl := Option.some.inj hf
    exact V_iret (Y := m_X10_cape) rfl dX10_cape_116
  rw [if_neg hc4] at hf
  by_cases hc5 : x2 = (4 : Int32)
  · rw [if_pos hc5] at hf
    refine V_tsw (Y := m_X10_cape) (pc := 50) (tgt := 117) (4 : Int32) hc5 dX10_cape_50 (by decide +kernel) ?_
    refine V_aload_n (Y := m_X10_cape) (pc := 117) 0 dX10_cape_117 rfl ?_
    refine V_gi (Y := m_X10_cape) (pc := 118) 27 kX10 sM_0 (by decide +kernel) rfl tw_1097 dX10_cape_118 ?_
    refine V_aload_n (Y := m_X10_cape) (pc := 121) 0 dX10_cape_121 rfl ?_
    refine V_gi (Y := m_X10_cape) (pc := 122) 28 kX10 sM_0 (by decide +kernel) rfl tw_1098 dX10_cape_122 ?_
    refine V_iadd (Y := m_X10_cape) (pc := 125) dX10_cape_125 ?_
    refine V_iconst (Y := m_X10_cape) (pc := 126) (x := (2 : Int32)) dX10_cape_126 (by decide +kernel) ?_
    refine V_idiv (Y := m_X10_cape) (pc := 127) dX10_cape_127 (by decide +kernel) ?_
    obtain rfl := Option.some.inj hf
    exact V_iret (Y := m_X10_cape) rfl dX10_cape_128
  rw [if_neg hc5] at hf
  by_cases hc6 : x2 = (5 : Int32)
  · rw [if_pos hc6] at hf
    refine V_tsw (Y := m_X10_cape) (pc := 50) (tgt := 129) (5 : Int32) hc6 dX10_cape_50 (by decide +kernel) ?_
    refine V_aload_n (Y := m_X10_cape) (pc := 129) 0 dX10_cape_129 rfl ?_
    refine V_iload_n (Y := m_X10_cape) (pc := 130) 1 dX10_cape_130 rfl ?_
    obtain ⟨q7, hq7, hf⟩ := g_bind hf
    refine V_cVi (Y := m_X10_cape) (pc := 131) (As := [.int x1]) yf_X10_holds kX10 sM_0 (by decide +kernel) (ok_X10_holds x1 M _  hq7) tw_1432 tw_48 tw_1430 rfl rfl (Nat.le_of_ble_eq_true rfl) dX10_cape_131 ?_
    refine V_if_eq (Y := m_X10_cape) (pc := 134) (tgt := 141) dX10_cape_134 (by decide +kernel) hf (fun hf => ?_) (fun hf => ?_)
    · refine V_iconst (Y := m_X10_cape) (pc := 141) (x := (0 : Int32)) dX10_cape_141 (by decide +kernel) ?_
      obtain rfl := Option.some.inj hf
      exact V_iret (Y := m_X10_cape) rfl dX10_cape_142
    · refine V_iconst (Y := m_X10_cape) (pc := 137) (x := (1 : Int32)) dX10_cape_137 (by decide +kernel) ?_
      refine V_goto (Y := m_X10_cape) (pc := 138) (tgt := 142) dX10_cape_138 (by decide +kernel) ?_
      obtain rfl := Option.some.inj hf
      exact V_iret (Y := m_X10_cape) rfl dX10_cape_142
  rw [if_neg hc6] at hf
  by_cases hc8 : x2 = (6 : Int32)
  · rw [if_pos hc8] at hf
    refine V_tsw (Y := m_X10_cape) (pc := 50) (tgt := 143) (6 : Int32) hc8 dX10_cape_50 (by decide +kernel) ?_
    refine V_aload_n (Y := m_X10_cape) (pc := 143) 0 dX10_cape_143 rfl ?_
    refine V_gi (Y := m_X10_cape) (pc := 144) 29 kX10 sM_0 (by decide +kernel) rfl tw_1099 dX10_cape_144 ?_
    obtain rfl := Option.some.inj hf
    exact V_iret (Y := m_X10_cape) rfl dX10_cape_147
  rw [if_neg hc8] at hf
  refine V_tswO (Y := m_X10_cape) (pc := 50) (tgt := 148) [(0 : Int32), (1 : Int32), (2 : Int32), (3 : Int32), (4 : Int32), (5 : Int32), (6 : Int32)] (List.forall_mem_cons.mpr ⟨hc1, (List.forall_mem_cons.mpr ⟨hc2, (List.forall_mem_cons.mpr ⟨hc3, (List.forall_mem_cons.mpr ⟨hc4, (List.forall_mem_cons.mpr ⟨hc5, (List.forall_mem_cons.mpr ⟨hc6, (List.forall_mem_cons.mpr ⟨hc8, (fun _ h => absurd h List.not_mem_nil)⟩)⟩)⟩)⟩)⟩)⟩)⟩) dX10_cape_50 (by decide +kernel) (by decide +kernel) ?_
  refine V_aload_n (Y := m_X10_cape) (pc := 148) 0 dX10_cape_148 rfl ?_
  refine V_iload_n (Y := m_X10_cape) (pc := 149) 1 dX10_cape_149 rfl ?_
  obtain ⟨q9, hq9, hf⟩ := g_bind hf
  refine V_cVi (Y := m_X10_cape) (pc := 150) (As := [.int x1]) yf_X10_standsOnOne kX10 sM_0 (by decide +kernel) (ok_X10_standsOnOne x1 M _  hq9) tw_1436 tw_49 tw_1434 rfl rfl (Nat.le_of_ble_eq_true rfl) dX10_cape_150 ?_
  refine V_if_eq (Y := m_X10_cape) (pc := 153) (tgt := 160) dX10_cape_153 (by decide +kernel) hf (fun hf => ?_) (fun hf => ?_)
  · refine V_iconst (Y := m_X10_cape) (pc := 160) (x := (0 : Int32)) dX10_cape_160 (by decide +kernel) ?_
    obtain rfl := Option.some.inj hf
    exact V_iret (Y := m_X10_cape) rfl dX10_cape_161
  · refine V_iconst (Y := m_X10_cape) (pc := 156) (x := (1 : Int32)) dX10_cape_156 (by decide +kernel) ?_
    refine V_goto (Y := m_X10_cape) (pc := 157) (tgt := 161) dX10_cape_157 (by decide +kernel) ?_
    obtain rfl := Option.some.inj hf
    exact V_iret (Y := m_X10_cape) rfl dX10_cape_161
def f_X10_cape_b0  (x1 : Int32) (x2 : Int32) (M : Mem) : Option (Int32 × Mem) :=
  (f_X10_isCape x1 M).bind fun q1 =>
  if q1.1 = 0 then
    some ((-1000000001 : Int32), q1.2)
  else
    (f_X10_isIn x2.toInt64 (0 : Int64) (7 : Int64) q1.2).bind fun q2 =>
    if q2.1 = 0 then
      some ((-1000000001 : Int32), q2.2)
    else
      (f_X10_find x1 q2.2).bind fun q3 =>
      if (q3.2 0 26) = 0 then
        (f_X10_isIn x2.toInt64 (1 : Int64) (4 : Int64) q3.2).bind fun q4 =>
        if q4.1 = 0 then
          f_X10_cape_b49  x1 x2 q4.2
        else
          some ((-1000000005 : Int32), q4.2)
      else
        f_X10_cape_b49  x1 x2 q3.2
set_option maxRecDepth 20000 in
set_option maxHeartbeats 4000000 in
theorem ok_X10_cape_b0 {l : Launch} {g : Gam} {b : Nat}   (x1 : Int32) (x2 : Int32) (M : Mem) (z : Int32 × Mem)  (hf : f_X10_cape_b0 x1 x2 M = some z) : V l g (wM b) m_X10_cape 0 [(0, .ref (b + 0)), (1, .int x1), (2, .int x2)] [] M (some (.int z.1)) z.2 := by
  unfold f_X10_cape_b0 at hf
  refine V_iload_n (Y := m_X10_cape) (pc := 0) 1 dX10_cape_0 rfl ?_
  obtain ⟨q1, hq1, hf⟩ := g_bind hf
  refine V_cSi (Y := m_X10_cape) (pc := 1) (As := [.int x1]) yf_X10_isCape (by decide +kernel) (ok_X10_isCape x1 M _  hq1) tw_1418 tw_1417 rfl rfl (Nat.le_of_ble_eq_true rfl) dX10_cape_1 ?_
  refine V_if_eq (Y := m_X10_cape) (pc := 4) (tgt := 19) dX10_cape_4 (by decide +kernel) hf (fun hf => ?_) (fun hf => ?_)
  · refine V_ldc (Y := m_X10_cape) (pc := 19) (x := (-1000000001 : Int32)) dX10_cape_19 tw_1224 ?_
    obtain rfl := Option.some.inj hf
    exact V_iret (Y := m_X10_cape) rfl dX10_cape_21
  · refine V_iload_n (Y := m_X10_cape) (pc := 7) 2 dX10_cape_7 rfl ?_
    refine V_i2l (Y := m_X10_cape) (pc := 8) dX10_cape_8 ?_
    refine V_lconst (Y := m_X10_cape) (pc := 9) (x := (0 : Int64)) dX10_cape_9 (by decide +kernel) ?_
    refine V_ldc2 (Y := m_X10_cape) (pc := 10) (x := (7 : Int64)) dX10_cape_10 tw_1216 ?_
    obtain ⟨q2, hq2, hf⟩ := g_bind hf
    refine V_cSi (Y := m_X10_cape) (pc := 13) (As := [.long x2.toInt64, .long (0 : Int64), .long (7 : Int64)]) yf_X10_isIn (by decide +kernel) (ok_X10_isIn x2.toInt64 (0 : Int64) (7 : Int64) q1.2 _  hq2) tw_1218 tw_1217 rfl rfl (Nat.le_of_ble_eq_true rfl) dX10_cape_13 ?_
    refine V_if_ne (Y := m_X10_cape) (pc := 16) (tgt := 22) dX10_cape_16 (by decide +kernel) hf (fun hf => ?_) (fun hf => ?_)
    · refine V_aload_n (Y := m_X10_cape) (pc := 22) 0 dX10_cape_22 rfl ?_
      refine V_iload_n (Y := m_X10_cape) (pc := 23) 1 dX10_cape_23 rfl ?_
      obtain ⟨q3, hq3, hf⟩ := g_bind hf
      refine V_cVv (Y := m_X10_cape) (pc := 24) (As := [.int x1]) yf_X10_find kX10 sM_0 (by decide +kernel) (ok_X10_find x1 q2.2 _  hq3) tw_1422 tw_47 tw_1420 rfl rfl (Nat.le_of_ble_eq_true rfl) dX10_cape_24 ?_
      refine V_aload_n (Y := m_X10_cape) (pc := 27) 0 dX10_cape_27 rfl ?_
      refine V_gi (Y := m_X10_cape) (pc := 28) 26 kX10 sM_0 (by decide +kernel) rfl tw_1096 dX10_cape_28 ?_
      refine V_if_ne (Y := m_X10_cape) (pc := 31) (tgt := 49) dX10_cape_31 (by decide +kernel) hf (fun hf => ?_) (fun hf => ?_)
      · exact V_sub [0, 1, 2] rfl (ok_X10_cape_b49  x1 x2 q3.2 z  hf)
      · refine V_iload_n (Y := m_X10_cape) (pc := 34) 2 dX10_cape_34 rfl ?_
        refine V_i2l (Y := m_X10_cape) (pc := 35) dX10_cape_35 ?_
        refine V_lconst (Y := m_X10_cape) (pc := 36) (x := (1 : Int64)) dX10_cape_36 (by decide +kernel) ?_
        refine V_ldc2 (Y := m_X10_cape) (pc := 37) (x := (4 : Int64)) dX10_cape_37 tw_1429 ?_
        obtain ⟨q4, hq4, hf⟩ := g_bind hf
        refine V_cSi (Y := m_X10_cape) (pc := 40) (As := [.long x2.toInt64, .long (1 : Int64), .long (4 : Int64)]) yf_X10_isIn (by decide +kernel) (ok_X10_isIn x2.toInt64 (1 : Int64) (4 : Int64) q3.2 _  hq4) tw_1218 tw_1217 rfl rfl (Nat.le_of_ble_eq_true rfl) dX10_cape_40 ?_
        refine V_if_eq (Y := m_X10_cape) (pc := 43) (tgt := 49) dX10_cape_43 (by decide +kernel) hf (fun hf => ?_) (fun hf => ?_)
        · exact V_sub [0, 1, 2] rfl (ok_X10_cape_b49  x1 x2 q4.2 z  hf)
        · refine V_ldc (Y := m_X10_cape) (pc := 46) (x := (-1000000005 : Int32)) dX10_cape_46 tw_1249 ?_
          obtain rfl := Option.some.inj hf
          exact V_iret (Y := m_X10_cape) rfl dX10_cape_48
    · refine V_ldc (Y := m_X10_cape) (pc := 19) (x := (-1000000001 : Int32)) dX10_cape_19 tw_1224 ?_
      obtain rfl := Option.some.inj hf
      exact V_iret (Y := m_X10_cape) rfl dX10_cape_21
def f_X10_cape (x1 : Int32) (x2 : Int32) (M : Mem) : Option (Int32 × Mem) := f_X10_cape_b0 x1 x2 M
set_option maxRecDepth 20000 in
set_option maxHeartbeats 4000000 in
theorem ok_X10_cape {l : Launch} {g : Gam} {b : Nat} : ∀ (x1 : Int32) (x2 : Int32) (M : Mem) (z : Int32 × Mem), f_X10_cape x1 x2 M = some z → Cn l g (wM b) m_X10_cape [.ref (b + 0), .int x1, .int x2] M (some (.int z.1)) z.2 := fun x1 x2 M z  hf => Cn_of (by decide +kernel) (Nat.le_of_ble_eq_true rfl) (V_sub [0, 1, 2] rfl (ok_X10_cape_b0 x1 x2 M z  hf))

abbrev m_X10_capes : Mth := (yX10_capes, cX10_capes, 5, some .int, 8)
theorem yf_X10_capes : YF m_X10_capes 1 := ⟨tw_1441, tw_75, by decide +kernel, by decide +kernel⟩
def f_X10_capes_b87 (k19 : Int32 → Int32 → Int32 → Mem → Option (Int32 × Mem)) (x1 : Int32) (x3 : Int32) (s0 : Int32) (s1 : Int32) (M : Mem) : Option (Int32 × Mem) :=
  k19 x1 (s1 ||| s0) (x3 + (1 : Int32)) M
set_option maxRecDepth 20000 in
set_option maxHeartbeats 4000000 in
theorem ok_X10_capes_b87 {l : Launch} {g : Gam} {b : Nat} (k19 : Int32 → Int32 → Int32 → Mem → Option (Int32 × Mem)) (hk19 : ∀ (x1 : Int32) (x2 : Int32) (x3 : Int32) (M : Mem) (z : Int32 × Mem), k19 x1 x2 x3 M = some z → V l g (wM b) m_X10_capes 19 [(0, .ref (b + 0)), (1, .int x1), (2, .int x2), (3, .int x3)] [] M (some (.int z.1)) z.2) (x1 : Int32) (x3 : Int32) (s0 : Int32) (s1 : Int32) (M : Mem) (z : Int32 × Mem)  (hf : f_X10_capes_b87 k19 x1 x3 s0 s1 M = some z) : V l g (wM b) m_X10_capes 87 [(0, .ref (b + 0)), (1, .int x1), (3, .int x3)] [.int s0, .int s1] M (some (.int z.1)) z.2 := by
  unfold f_X10_capes_b87 at hf
  refine V_ior (Y := m_X10_capes) (pc := 87) dX10_capes_87 ?_
  refine V_istore_n (Y := m_X10_capes) (pc := 88) [(2, .int (s1 ||| s0)), (0, .ref (b + 0)), (1, .int x1), (3, .int x3)] dX10_capes_88 (by decide +kernel) rfl ?_
  refine V_iinc (Y := m_X10_capes) (pc := 89) (y := (x3 + (1 : Int32))) 3 [(3, .int (x3 + (1 : Int32))), (2, .int (s1 ||| s0)), (0, .ref (b + 0)), (1, .int x1)] dX10_capes_89 rfl rfl (by decide +kernel) rfl ?_
  refine V_goto (Y := m_X10_capes) (pc := 92) (tgt := 19) dX10_capes_92 (by decide +kernel) ?_
  exact V_sub [2, 3, 1, 0] rfl (hk19 x1 (s1 ||| s0) (x3 + (1 : Int32)) M z  hf)
def f_X10_capes_b80 (k19 : Int32 → Int32 → Int32 → Mem → Option (Int32 × Mem)) (x1 : Int32) (x3 : Int32) (s0 : Int32) (M : Mem) : Option (Int32 × Mem) :=
  f_X10_capes_b87 k19 x1 x3 ((1 : Int32) <<< (x3 &&& 31)) s0 M
set_option maxRecDepth 20000 in
set_option maxHeartbeats 4000000 in
theorem ok_X10_capes_b80 {l : Launch} {g : Gam} {b : Nat} (k19 : Int32 → Int32 → Int32 → Mem → Option (Int32 × Mem)) (hk19 : ∀ (x1 : Int32) (x2 : Int32) (x3 : Int32) (M : Mem) (z : Int32 × Mem), k19 x1 x2 x3 M = some z → V l g (wM b) m_X10_capes 19 [(0, .ref (b + 0)), (1, .int x1), (2, .int x2), (3, .int x3)] [] M (some (.int z.1)) z.2) (x1 : Int32) (x3 : Int32) (s0 : Int32) (M : Mem) (z : Int32 × Mem)  (hf : f_X10_capes_b80 k19 x1 x3 s0 M = some z) : V l g (wM b) m_X10_capes 80 [(0, .ref (b + 0)), (1, .int x1), (3, .int x3)] [.int s0] M (some (.int z.1)) z.2 := by
  unfold f_X10_capes_b80 at hf
  refine V_iconst (Y := m_X10_capes) (pc := 80) (x := (1 : Int32)) dX10_capes_80 (by decide +kernel) ?_
  refine V_iload_n (Y := m_X10_capes) (pc := 81) 2 dX10_capes_81 rfl ?_
  refine V_ishl (Y := m_X10_capes) (pc := 82) dX10_capes_82 ?_
  refine V_goto (Y := m_X10_capes) (pc := 83) (tgt := 87) dX10_capes_83 (by decide +kernel) ?_
  exact V_sub [0, 1, 2] rfl (ok_X10_capes_b87 k19 hk19 x1 x3 ((1 : Int32) <<< (x3 &&& 31)) s0 M z  hf)
def f_X10_capes_b86 (k19 : Int32 → Int32 → Int32 → Mem → Option (Int32 × Mem)) (x1 : Int32) (x3 : Int32) (s0 : Int32) (M : Mem) : Option (Int32 × Mem) :=
  f_X10_capes_b87 k19 x1 x3 (0 : Int32) s0 M
set_option maxRecDepth 20000 in
set_option maxHeartbeats 4000000 in
theorem ok_X10_capes_b86 {l : Launch} {g : Gam} {b : Nat} (k19 : Int32 → Int32 → Int32 → Mem → Option (Int32 × Mem)) (hk19 : ∀ (x1 : Int32) (x2 : Int32) (x3 : Int32) (M : Mem) (z : Int32 × Mem), k19 x1 x2 x3 M = some z → V l g (wM b) m_X10_capes 19 [(0, .ref (b + 0)), (1, .int x1), (2, .int x2), (3, .int x3)] [] M (some (.int z.1)) z.2) (x1 : Int32) (x3 : Int32) (s0 : Int32) (M : Mem) (z : Int32 × Mem)  (hf : f_X10_capes_b86 k19 x1 x3 s0 M = some z) : V l g (wM b) m_X10_capes 86 [(0, .ref (b + 0)), (1, .int x1), (3, .int x3)] [.int s0] M (some (.int z.1)) z.2 := by
  unfold f_X10_capes_b86 at hf
  refine V_iconst (Y := m_X10_capes) (pc := 86) (x := (0 : Int32)) dX10_capes_86 (by decide +kernel) ?_
  exact V_sub [0, 1, 2] rfl (ok_X10_capes_b87 k19 hk19 x1 x3 (0 : Int32) s0 M z  hf)
def f_X10_capes_b56 (k19 : Int32 → Int32 → Int32 → Mem → Option (Int32 × Mem)) (x1 : Int32) (x2 : Int32) (x3 : Int32) (s0 : Int32) (M : Mem) : Option (Int32 × Mem) :=
  (f_X10_find x3 M).bind fun q1 =>
  if s0 = 0 then
    if x1 = 0 then
      if (q1.2 0 26) ≤ 0 then
        f_X10_capes_b86 k19 x1 x3 x2 q1.2
      else
        f_X10_capes_b80 k19 x1 x3 x2 q1.2
    else
      f_X10_capes_b86 k19 x1 x3 x2 q1.2
  else
    f_X10_capes_b80 k19 x1 x3 x2 q1.2
set_option maxRecDepth 20000 in
set_option maxHeartbeats 4000000 in
theorem ok_X10_capes_b56 {l : Launch} {g : Gam} {b : Nat} (k19 : Int32 → Int32 → Int32 → Mem → Option (Int32 × Mem)) (hk19 : ∀ (x1 : Int32) (x2 : Int32) (x3 : Int32) (M : Mem) (z : Int32 × Mem), k19 x1 x2 x3 M = some z → V l g (wM b) m_X10_capes 19 [(0, .ref (b + 0)), (1, .int x1), (2, .int x2), (3, .int x3)] [] M (some (.int z.1)) z.2) (x1 : Int32) (x2 : Int32) (x3 : Int32) (s0 : Int32) (M : Mem) (z : Int32 × Mem)  (hf : f_X10_capes_b56 k19 x1 x2 x3 s0 M = some z) : V l g (wM b) m_X10_capes 56 [(0, .ref (b + 0)), (1, .int x1), (2, .int x2), (3, .int x3)] [.int s0] M (some (.int z.1)) z.2 := by
  unfold f_X10_capes_b56 at hf
  refine V_istore (Y := m_X10_capes) (pc := 56) [(4, .int s0), (0, .ref (b + 0)), (1, .int x1), (2, .int x2), (3, .int x3)] dX10_capes_56 (by decide +kernel) rfl ?_
  refine V_aload_n (Y := m_X10_capes) (pc := 58) 1 dX10_capes_58 rfl ?_
  refine V_iload_n (Y := m_X10_capes) (pc := 59) 4 dX10_capes_59 rfl ?_
  obtain ⟨q1, hq1, hf⟩ := g_bind hf
  refine V_cVv (Y := m_X10_capes) (pc := 60) (As := [.int x3]) yf_X10_find kX10 sM_0 (by decide +kernel) (ok_X10_find x3 M _  hq1) tw_1422 tw_47 tw_1420 rfl rfl (Nat.le_of_ble_eq_true rfl) dX10_capes_60 ?_
  refine V_iload_n (Y := m_X10_capes) (pc := 63) 3 dX10_capes_63 rfl ?_
  refine V_iload (Y := m_X10_capes) (pc := 64) 0 dX10_capes_64 rfl ?_
  refine V_if_ne (Y := m_X10_capes) (pc := 66) (tgt := 80) dX10_capes_66 (by decide +kernel) hf (fun hf => ?_) (fun hf => ?_)
  · exact V_sub [1, 2, 4] rfl (ok_X10_capes_b80 k19 hk19 x1 x3 x2 q1.2 z  hf)
  · refine V_iload_n (Y := m_X10_capes) (pc := 69) 2 dX10_capes_69 rfl ?_
    refine V_if_ne (Y := m_X10_capes) (pc := 70) (tgt := 86) dX10_capes_70 (by decide +kernel) hf (fun hf => ?_) (fun hf => ?_)
    · exact V_sub [1, 2, 4] rfl (ok_X10_capes_b86 k19 hk19 x1 x3 x2 q1.2 z  hf)
    · refine V_aload_n (Y := m_X10_capes) (pc := 73) 1 dX10_capes_73 rfl ?_
      refine V_gi (Y := m_X10_capes) (pc := 74) 26 kX10 sM_0 (by decide +kernel) rfl tw_1096 dX10_capes_74 ?_
      refine V_if_le (Y := m_X10_capes) (pc := 77) (tgt := 86) dX10_capes_77 (by decide +kernel) hf (fun hf => ?_) (fun hf => ?_)
      · exact V_sub [1, 2, 4] rfl (ok_X10_capes_b86 k19 hk19 x1 x3 x2 q1.2 z  hf)
      · exact V_sub [1, 2, 4] rfl (ok_X10_capes_b80 k19 hk19 x1 x3 x2 q1.2 z  hf)
def f_X10_capes_b55 (k19 : Int32 → Int32 → Int32 → Mem → Option (Int32 × Mem)) (x1 : Int32) (x2 : Int32) (x3 : Int32) (M : Mem) : Option (Int32 × Mem) :=
  f_X10_capes_b56 k19 x1 x2 x3 (0 : Int32) M
set_option maxRecDepth 20000 in
set_option maxHeartbeats 4000000 in
theorem ok_X10_capes_b55 {l : Launch} {g : Gam} {b : Nat} (k19 : Int32 → Int32 → Int32 → Mem → Option (Int32 × Mem)) (hk19 : ∀ (x1 : Int32) (x2 : Int32) (x3 : Int32) (M : Mem) (z : Int32 × Mem), k19 x1 x2 x3 M = some z → V l g (wM b) m_X10_capes 19 [(0, .ref (b + 0)), (1, .int x1), (2, .int x2), (3, .int x3)] [] M (some (.int z.1)) z.2) (x1 : Int32) (x2 : Int32) (x3 : Int32) (M : Mem) (z : Int32 × Mem)  (hf : f_X10_capes_b55 k19 x1 x2 x3 M = some z) : V l g (wM b) m_X10_capes 55 [(0, .ref (b + 0)), (1, .int x1), (2, .int x2), (3, .int x3)] [] M (some (.int z.1)) z.2 := by
  unfold f_X10_capes_b55 at hf
  refine V_iconst (Y := m_X10_capes) (pc := 55) (x := (0 : Int32)) dX10_capes_55 (by decide +kernel) ?_
  exact V_sub [0, 1, 2, 3] rfl (ok_X10_capes_b56 k19 hk19 x1 x2 x3 (0 : Int32) M z  hf)
def f_X10_capes_b19  : Nat → Int32 → Int32 → Int32 → Mem → Option (Int32 × Mem)
  | 0, _, _, _, _ => none
  | n + 1, x1, x2, x3, M =>
    if (9 : Int32) ≤ x3 then
      some (x2, M)
    else
      if x1 = (1 : Int32) then
        (f_X10_holds x3 M).bind fun q2 =>
        f_X10_capes_b56 (f_X10_capes_b19  n) x1 x2 x3 q2.1 q2.2
      else
        if x1 = (2 : Int32) then
          (f_X10_standsOnOne x3 M).bind fun q1 =>
          if q1.1 = 0 then
            f_X10_capes_b55 (f_X10_capes_b19  n) x1 x2 x3 q1.2
          else
            f_X10_capes_b56 (f_X10_capes_b19  n) x1 x2 x3 (1 : Int32) q1.2
        else
          f_X10_capes_b55 (f_X10_capes_b19  n) x1 x2 x3 M
set_option maxRecDepth 20000 in
set_option maxHeartbeats 4000000 in
theorem ok_X10_capes_b19 {l : Launch} {g : Gam} {b : Nat}   : ∀ (n : Nat) (x1 : Int32) (x2 : Int32) (x3 : Int32) (M : Mem) (z : Int32 × Mem), f_X10_capes_b19  n x1 x2 x3 M = some z → V l g (wM b) m_X10_capes 19 [(0, .ref (b + 0)), (1, .int x1), (2, .int x2), (3, .int x3)] [] M (some (.int z.1)) z.2 := by
  intro n
  induction n with
  | zero =>
    intro x1 x2 x3 M z  hf
    cases hf
  | succ n ih =>
    intro x1 x2 x3 M z  hf
    rw [f_X10_capes_b19] at hf
    refine V_iload_n (Y := m_X10_capes) (pc := 19) 3 dX10_capes_19 rfl ?_
    refine V_bipush (Y := m_X10_capes) (pc := 20) (x := (9 : Int32)) dX10_capes_20 (by decide +kernel) ?_
    refine V_icmp_ge (Y := m_X10_capes) (pc := 22) (tgt := 95) dX10_capes_22 (by decide +kernel) hf (fun hf => ?_) (fun hf => ?_)
    · refine V_iload_n (Y := m_X10_capes) (pc := 95) 2 dX10_capes_95 rfl ?_
      obtain rfl := Option.some.inj hf
      exact V_iret (Y := m_X10_capes) rfl dX10_capes_96
    · refine V_iload_n (Y := m_X10_capes) (pc := 25) 1 dX10_capes_25 rfl ?_
      refine V_iconst (Y := m_X10_capes) (pc := 26) (x := (1 : Int32)) dX10_capes_26 (by decide +kernel) ?_
      refine V_icmp_ne (Y := m_X10_capes) (pc := 27) (tgt := 38) dX10_capes_27 (by decide +kernel) hf (fun hf => ?_) (fun hf => ?_)
      · refine V_iload_n (Y := m_X10_capes) (pc := 38) 1 dX10_capes_38 rfl ?_
        refine V_iconst (Y := m_X10_capes) (pc := 39) (x := (2 : Int32)) dX10_capes_39 (by decide +kernel) ?_
        refine V_icmp_ne (Y := m_X10_capes) (pc := 40) (tgt := 55) dX10_capes_40 (by decide +kernel) hf (fun hf => ?_) (fun hf => ?_)
        · exact V_sub [0, 1, 2, 3] rfl (ok_X10_capes_b55 (f_X10_capes_b19  n) ih x1 x2 x3 M z  hf)
        · refine V_aload_n (Y := m_X10_capes) (pc := 43) 0 dX10_capes_43 rfl ?_
          refine V_iload_n (Y := m_X10_capes) (pc := 44) 3 dX10_capes_44 rfl ?_
          obtain ⟨q1, hq1, hf⟩ := g_bind hf
          refine V_cVi (Y := m_X10_capes) (pc := 45) (As := [.int x3]) yf_X10_standsOnOne kX10 sM_0 (by decide +kernel) (ok_X10_standsOnOne x3 M _  hq1) tw_1436 tw_49 tw_1434 rfl rfl (Nat.le_of_ble_eq_true rfl) dX10_capes_45 ?_
          refine V_if_eq (Y := m_X10_capes) (pc := 48) (tgt := 55) dX10_capes_48 (by decide +kernel) hf (fun hf => ?_) (fun hf => ?_)
          · exact V_sub [0, 1, 2, 3] rfl (ok_X10_capes_b55 (f_X10_capes_b19  n) ih x1 x2 x3 q1.2 z  hf)
          · refine V_iconst (Y := m_X10_capes) (pc := 51) (x := (1 : Int32)) dX10_capes_51 (by decide +kernel) ?_
            refine V_goto (Y := m_X10_capes) (pc := 52) (tgt := 56) dX10_capes_52 (by decide +kernel) ?_
            exact V_sub [0, 1, 2, 3] rfl (ok_X10_capes_b56 (f_X10_capes_b19  n) ih x1 x2 x3 (1 : Int32) q1.2 z  hf)
      · refine V_aload_n (Y := m_X10_capes) (pc := 30) 0 dX10_capes_30 rfl ?_
        refine V_iload_n (Y := m_X10_capes) (pc := 31) 3 dX10_capes_31 rfl ?_
        obtain ⟨q2, hq2, hf⟩ := g_bind hf
        refine V_cVi (Y := m_X10_capes) (pc := 32) (As := [.int x3]) yf_X10_holds kX10 sM_0 (by decide +kernel) (ok_X10_holds x3 M _  hq2) tw_1432 tw_48 tw_1430 rfl rfl (Nat.le_of_ble_eq_true rfl) dX10_capes_32 ?_
        refine V_goto (Y := m_X10_capes) (pc := 35) (tgt := 56) dX10_capes_35 (by decide +kernel) ?_
        exact V_sub [0, 1, 2, 3] rfl (ok_X10_capes_b56 (f_X10_capes_b19  n) ih x1 x2 x3 q2.1 q2.2 z  hf)
def f_X10_capes_b0  (x1 : Int32) (M : Mem) : Option (Int32 × Mem) :=
  (f_X10_isIn x1.toInt64 (0 : Int64) (2 : Int64) M).bind fun q1 =>
  if q1.1 = 0 then
    some ((-1000000001 : Int32), q1.2)
  else
    f_X10_capes_b19  FU x1 (0 : Int32) (0 : Int32) q1.2
set_option maxRecDepth 20000 in
set_option maxHeartbeats 4000000 in
theorem ok_X10_capes_b0 {l : Launch} {g : Gam} {b : Nat}   (x1 : Int32) (M : Mem) (z : Int32 × Mem)  (hf : f_X10_capes_b0 x1 M = some z) : V l g (wM b) m_X10_capes 0 [(0, .ref (b + 0)), (1, .int x1)] [] M (some (.int z.1)) z.2 := by
  unfold f_X10_capes_b0 at hf
  refine V_iload_n (Y := m_X10_capes) (pc := 0) 1 dX10_capes_0 rfl ?_
  refine V_i2l (Y := m_X10_capes) (pc := 1) dX10_capes_1 ?_
  refine V_lconst (Y := m_X10_capes) (pc := 2) (x := (0 : Int64)) dX10_capes_2 (by decide +kernel) ?_
  refine V_ldc2 (Y := m_X10_capes) (pc := 3) (x := (2 : Int64)) dX10_capes_3 tw_1405 ?_
  obtain ⟨q1, hq1, hf⟩ := g_bind hf
  refine V_cSi (Y := m_X10_capes) (pc := 6) (As := [.long x1.toInt64, .long (0 : Int64), .long (2 : Int64)]) yf_X10_isIn (by decide +kernel) (ok_X10_isIn x1.toInt64 (0 : Int64) (2 : Int64) M _  hq1) tw_1218 tw_1217 rfl rfl (Nat.le_of_ble_eq_true rfl) dX10_capes_6 ?_
  refine V_if_ne (Y := m_X10_capes) (pc := 9) (tgt := 15) dX10_capes_9 (by decide +kernel) hf (fun hf => ?_) (fun hf => ?_)
  · refine V_iconst (Y := m_X10_capes) (pc := 15) (x := (0 : Int32)) dX10_capes_15 (by decide +kernel) ?_
    refine V_istore_n (Y := m_X10_capes) (pc := 16) [(2, .int (0 : Int32)), (0, .ref (b + 0)), (1, .int x1)] dX10_capes_16 (by decide +kernel) rfl ?_
    refine V_iconst (Y := m_X10_capes) (pc := 17) (x := (0 : Int32)) dX10_capes_17 (by decide +kernel) ?_
    refine V_istore_n (Y := m_X10_capes) (pc := 18) [(3, .int (0 : Int32)), (2, .int (0 : Int32)), (0, .ref (b + 0)), (1, .int x1)] dX10_capes_18 (by decide +kernel) rfl ?_
    exact V_sub [2, 3, 1, 0] rfl (ok_X10_capes_b19  FU x1 (0 : Int32) (0 : Int32) q1.2 z  hf)
  · refine V_ldc (Y := m_X10_capes) (pc := 12) (x := (-1000000001 : Int32)) dX10_capes_12 tw_1224 ?_
    obtain rfl := Option.some.inj hf
    exact V_iret (Y := m_X10_capes) rfl dX10_capes_14
def f_X10_capes (x1 : Int32) (M : Mem) : Option (Int32 × Mem) := f_X10_capes_b0 x1 M
set_option maxRecDepth 20000 in
set_option maxHeartbeats 4000000 in
theorem ok_X10_capes {l : Launch} {g : Gam} {b : Nat} : ∀ (x1 : Int32) (M : Mem) (z : Int32 × Mem), f_X10_capes x1 M = some z → Cn l g (wM b) m_X10_capes [.ref (b + 0), .int x1] M (some (.int z.1)) z.2 := fun x1 M z  hf => Cn_of (by decide +kernel) (Nat.le_of_ble_eq_true rfl) (V_sub [0, 1] rfl (ok_X10_capes_b0 x1 M z  hf))

abbrev m_X10_next : Mth := (yX10_next, cX10_next, 4, some .int, 8)
theorem yf_X10_next : YF m_X10_next 0 := ⟨tw_1445, tw_75, by decide +kernel, by decide +kernel⟩
def f_X10_next_b51  (x1 : Int32) (M : Mem) : Option (Int32 × Mem) :=
  (f_X10_orNone x1 M).bind fun q1 =>
  some (q1.1, q1.2)
set_option maxRecDepth 20000 in
set_option maxHeartbeats 4000000 in
theorem ok_X10_next_b51 {l : Launch} {g : Gam} {b : Nat}   (x1 : Int32) (M : Mem) (z : Int32 × Mem)  (hf : f_X10_next_b51 x1 M = some z) : V l g (wM b) m_X10_next 51 [(1, .int x1)] [] M (some (.int z.1)) z.2 := by
  unfold f_X10_next_b51 at hf
  refine V_iload_n (Y := m_X10_next) (pc := 51) 0 dX10_next_51 rfl ?_
  obtain ⟨q1, hq1, hf⟩ := g_bind hf
  refine V_cSi (Y := m_X10_next) (pc := 52) (As := [.int x1]) yf_X10_orNone (by decide +kernel) (ok_X10_orNone x1 M _  hq1) tw_1247 tw_1246 rfl rfl (Nat.le_of_ble_eq_true rfl) dX10_next_52 ?_
  obtain rfl := Option.some.inj hf
  exact V_iret (Y := m_X10_next) rfl dX10_next_55
def f_X10_next_b45 (k6 : Int32 → Int32 → Int32 → Mem → Option (Int32 × Mem)) (x1 : Int32) (x2 : Int32) (x3 : Int32) (M : Mem) : Option (Int32 × Mem) :=
  k6 x1 x2 (x3 + (1 : Int32)) M
set_option maxRecDepth 20000 in
set_option maxHeartbeats 4000000 in
theorem ok_X10_next_b45 {l : Launch} {g : Gam} {b : Nat} (k6 : Int32 → Int32 → Int32 → Mem → Option (Int32 × Mem)) (hk6 : ∀ (x1 : Int32) (x2 : Int32) (x3 : Int32) (M : Mem) (z : Int32 × Mem), k6 x1 x2 x3 M = some z → V l g (wM b) m_X10_next 6 [(0, .ref (b + 0)), (1, .int x1), (2, .int x2), (3, .int x3)] [] M (some (.int z.1)) z.2) (x1 : Int32) (x2 : Int32) (x3 : Int32) (M : Mem) (z : Int32 × Mem)  (hf : f_X10_next_b45 k6 x1 x2 x3 M = some z) : V l g (wM b) m_X10_next 45 [(0, .ref (b + 0)), (1, .int x1), (2, .int x2), (3, .int x3)] [] M (some (.int z.1)) z.2 := by
  unfold f_X10_next_b45 at hf
  refine V_iinc (Y := m_X10_next) (pc := 45) (y := (x3 + (1 : Int32))) 3 [(3, .int (x3 + (1 : Int32))), (0, .ref (b + 0)), (1, .int x1), (2, .int x2)] dX10_next_45 rfl rfl (by decide +kernel) rfl ?_
  refine V_goto (Y := m_X10_next) (pc := 48) (tgt := 6) dX10_next_48 (by decide +kernel) ?_
  exact V_sub [1, 2, 3, 0] rfl (hk6 x1 x2 (x3 + (1 : Int32)) M z  hf)
def f_X10_next_b6  : Nat → Int32 → Int32 → Int32 → Mem → Option (Int32 × Mem)
  | 0, _, _, _, _ => none
  | n + 1, x1, x2, x3, M =>
    if (9 : Int32) ≤ x3 then
      f_X10_next_b51  x1 M
    else
      (f_X10_holds x3 M).bind fun q1 =>
      if q1.1 = 0 then
        f_X10_next_b45 (f_X10_next_b6  n) x1 x2 x3 q1.2
      else
        if ((q1.2 0 28) - (q1.2 0 27)) ≤ x2 then
          f_X10_next_b45 (f_X10_next_b6  n) x1 x2 x3 q1.2
        else
          f_X10_next_b45 (f_X10_next_b6  n) x3 ((q1.2 0 28) - (q1.2 0 27)) x3 q1.2
set_option maxRecDepth 20000 in
set_option maxHeartbeats 4000000 in
theorem ok_X10_next_b6 {l : Launch} {g : Gam} {b : Nat}   : ∀ (n : Nat) (x1 : Int32) (x2 : Int32) (x3 : Int32) (M : Mem) (z : Int32 × Mem), f_X10_next_b6  n x1 x2 x3 M = some z → V l g (wM b) m_X10_next 6 [(0, .ref (b + 0)), (1, .int x1), (2, .int x2), (3, .int x3)] [] M (some (.int z.1)) z.2 := by
  intro n
  induction n with
  | zero =>
    intro x1 x2 x3 M z  hf
    cases hf
  | succ n ih =>
    intro x1 x2 x3 M z  hf
    rw [f_X10_next_b6] at hf
    refine V_iload_n (Y := m_X10_next) (pc := 6) 3 dX10_next_6 rfl ?_
    refine V_bipush (Y := m_X10_next) (pc := 7) (x := (9 : Int32)) dX10_next_7 (by decide +kernel) ?_
    refine V_icmp_ge (Y := m_X10_next) (pc := 9) (tgt := 51) dX10_next_9 (by decide +kernel) hf (fun hf => ?_) (fun hf => ?_)
    · exact V_sub [1] rfl (ok_X10_next_b51  x1 M z  hf)
    · refine V_aload_n (Y := m_X10_next) (pc := 12) 0 dX10_next_12 rfl ?_
      refine V_iload_n (Y := m_X10_next) (pc := 13) 3 dX10_next_13 rfl ?_
      obtain ⟨q1, hq1, hf⟩ := g_bind hf
      refine V_cVi (Y := m_X10_next) (pc := 14) (As := [.int x3]) yf_X10_holds kX10 sM_0 (by decide +kernel) (ok_X10_holds x3 M _  hq1) tw_1432 tw_48 tw_1430 rfl rfl (Nat.le_of_ble_eq_true rfl) dX10_next_14 ?_
      refine V_if_eq (Y := m_X10_next) (pc := 17) (tgt := 45) dX10_next_17 (by decide +kernel) hf (fun hf => ?_) (fun hf => ?_)
      · exact V_sub [0, 1, 2, 3] rfl (ok_X10_next_b45 (f_X10_next_b6  n) ih x1 x2 x3 q1.2 z  hf)
      · refine V_aload_n (Y := m_X10_next) (pc := 20) 0 dX10_next_20 rfl ?_
        refine V_gi (Y := m_X10_next) (pc := 21) 28 kX10 sM_0 (by decide +kernel) rfl tw_1098 dX10_next_21 ?_
        refine V_aload_n (Y := m_X10_next) (pc := 24) 0 dX10_next_24 rfl ?_
        refine V_gi (Y := m_X10_next) (pc := 25) 27 kX10 sM_0 (by decide +kernel) rfl tw_1097 dX10_next_25 ?_
        refine V_isub (Y := m_X10_next) (pc := 28) dX10_next_28 ?_
        refine V_iload_n (Y := m_X10_next) (pc := 29) 2 dX10_next_29 rfl ?_
        refine V_icmp_le (Y := m_X10_next) (pc := 30) (tgt := 45) dX10_next_30 (by decide +kernel) hf (fun hf => ?_) (fun hf => ?_)
        · exact V_sub [0, 1, 2, 3] rfl (ok_X10_next_b45 (f_X10_next_b6  n) ih x1 x2 x3 q1.2 z  hf)
        · refine V_iload_n (Y := m_X10_next) (pc := 33) 3 dX10_next_33 rfl ?_
          refine V_istore_n (Y := m_X10_next) (pc := 34) [(1, .int x3), (0, .ref (b + 0)), (2, .int x2), (3, .int x3)] dX10_next_34 (by decide +kernel) rfl ?_
          refine V_aload_n (Y := m_X10_next) (pc := 35) 1 dX10_next_35 rfl ?_
          refine V_gi (Y := m_X10_next) (pc := 36) 28 kX10 sM_0 (by decide +kernel) rfl tw_1098 dX10_next_36 ?_
          refine V_aload_n (Y := m_X10_next) (pc := 39) 1 dX10_next_39 rfl ?_
          refine V_gi (Y := m_X10_next) (pc := 40) 27 kX10 sM_0 (by decide +kernel) rfl tw_1097 dX10_next_40 ?_
          refine V_isub (Y := m_X10_next) (pc := 43) dX10_next_43 ?_
          refine V_istore_n (Y := m_X10_next) (pc := 44) [(2, .int ((q1.2 0 28) - (q1.2 0 27))), (1, .int x3), (0, .ref (b + 0)), (3, .int x3)] dX10_next_44 (by decide +kernel) rfl ?_
          exact V_sub [2, 1, 0, 3] rfl (ok_X10_next_b45 (f_X10_next_b6  n) ih x3 ((q1.2 0 28) - (q1.2 0 27)) x3 q1.2 z  hf)
def f_X10_next_b0   (M : Mem) : Option (Int32 × Mem) :=
  f_X10_next_b6  FU (-1 : Int32) (-1 : Int32) (0 : Int32) M
set_option maxRecDepth 20000 in
set_option maxHeartbeats 4000000 in
theorem ok_X10_next_b0 {l : Launch} {g : Gam} {b : Nat}    (M : Mem) (z : Int32 × Mem)  (hf : f_X10_next_b0  M = some z) : V l g (wM b) m_X10_next 0 [(0, .ref (b + 0))] [] M (some (.int z.1)) z.2 := by
  unfold f_X10_next_b0 at hf
  refine V_iconst (Y := m_X10_next) (pc := 0) (x := (-1 : Int32)) dX10_next_0 (by decide +kernel) ?_
  refine V_istore_n (Y := m_X10_next) (pc := 1) [(1, .int (-1 : Int32)), (0, .ref (b + 0))] dX10_next_1 (by decide +kernel) rfl ?_
  refine V_iconst (Y := m_X10_next) (pc := 2) (x := (-1 : Int32)) dX10_next_2 (by decide +kernel) ?_
  refine V_istore_n (Y := m_X10_next) (pc := 3) [(2, .int (-1 : Int32)), (1, .int (-1 : Int32)), (0, .ref (b + 0))] dX10_next_3 (by decide +kernel) rfl ?_
  refine V_iconst (Y := m_X10_next) (pc := 4) (x := (0 : Int32)) dX10_next_4 (by decide +kernel) ?_
  refine V_istore_n (Y := m_X10_next) (pc := 5) [(3, .int (0 : Int32)), (2, .int (-1 : Int32)), (1, .int (-1 : Int32)), (0, .ref (b + 0))] dX10_next_5 (by decide +kernel) rfl ?_
  exact V_sub [3, 2, 1, 0] rfl (ok_X10_next_b6  FU (-1 : Int32) (-1 : Int32) (0 : Int32) M z  hf)
def f_X10_next  (M : Mem) : Option (Int32 × Mem) := f_X10_next_b0  M
set_option maxRecDepth 20000 in
set_option maxHeartbeats 4000000 in
theorem ok_X10_next {l : Launch} {g : Gam} {b : Nat} : ∀  (M : Mem) (z : Int32 × Mem), f_X10_next  M = some z → Cn l g (wM b) m_X10_next [.ref (b + 0)] M (some (.int z.1)) z.2 := fun  M z  hf => Cn_of (by decide +kernel) (Nat.le_of_ble_eq_true rfl) (V_sub [0] rfl (ok_X10_next_b0  M z  hf))

abbrev m_X10_toldOf : Mth := (yX10_toldOf, cX10_toldOf, 4, some .int, 2)
theorem yf_X10_toldOf : YF m_X10_toldOf 1 := ⟨tw_1454, tw_75, by decide +kernel, by decide +kernel⟩
def f_X10_toldOf_b38 (k4 : Int32 → Int32 → Int32 → Mem → Option (Int32 × Mem)) (x1 : Int32) (x3 : Int32) (s0 : Int32) (s1 : Int32) (M : Mem) : Option (Int32 × Mem) :=
  k4 x1 (s1 + s0) (x3 + (1 : Int32)) M
set_option maxRecDepth 20000 in
set_option maxHeartbeats 4000000 in
theorem ok_X10_toldOf_b38 {l : Launch} {g : Gam} {b : Nat} (k4 : Int32 → Int32 → Int32 → Mem → Option (Int32 × Mem)) (hk4 : ∀ (x1 : Int32) (x2 : Int32) (x3 : Int32) (M : Mem) (z : Int32 × Mem), k4 x1 x2 x3 M = some z → V l g (wM b) m_X10_toldOf 4 [(0, .ref (b + 0)), (1, .int x1), (2, .int x2), (3, .int x3)] [] M (some (.int z.1)) z.2) (x1 : Int32) (x3 : Int32) (s0 : Int32) (s1 : Int32) (M : Mem) (z : Int32 × Mem)  (hf : f_X10_toldOf_b38 k4 x1 x3 s0 s1 M = some z) : V l g (wM b) m_X10_toldOf 38 [(0, .ref (b + 0)), (1, .int x1), (3, .int x3)] [.int s0, .int s1] M (some (.int z.1)) z.2 := by
  unfold f_X10_toldOf_b38 at hf
  refine V_iadd (Y := m_X10_toldOf) (pc := 38) dX10_toldOf_38 ?_
  refine V_istore_n (Y := m_X10_toldOf) (pc := 39) [(2, .int (s1 + s0)), (0, .ref (b + 0)), (1, .int x1), (3, .int x3)] dX10_toldOf_39 (by decide +kernel) rfl ?_
  refine V_iinc (Y := m_X10_toldOf) (pc := 40) (y := (x3 + (1 : Int32))) 3 [(3, .int (x3 + (1 : Int32))), (2, .int (s1 + s0)), (0, .ref (b + 0)), (1, .int x1)] dX10_toldOf_40 rfl rfl (by decide +kernel) rfl ?_
  refine V_goto (Y := m_X10_toldOf) (pc := 43) (tgt := 4) dX10_toldOf_43 (by decide +kernel) ?_
  exact V_sub [2, 3, 1, 0] rfl (hk4 x1 (s1 + s0) (x3 + (1 : Int32)) M z  hf)
def f_X10_toldOf_b4  : Nat → Int32 → Int32 → Int32 → Mem → Option (Int32 × Mem)
  | 0, _, _, _, _ => none
  | n + 1, x1, x2, x3, M =>
    if (M 1 3) ≤ x3 then
      some (x2, M)
    else
      if ixb ((30 : Int32) + x3) 3300 = true then
      (f_X10_field (M 1 (ix ((30 : Int32) + x3))) (1 : Int32) M).bind fun q2 =>
      if q2.1 = x1 then
        f_X10_toldOf_b38 (f_X10_toldOf_b4  n) x1 x3 (1 : Int32) x2 q2.2
      else
        f_X10_toldOf_b38 (f_X10_toldOf_b4  n) x1 x3 (0 : Int32) x2 q2.2
      else none
set_option maxRecDepth 20000 in
set_option maxHeartbeats 4000000 in
theorem ok_X10_toldOf_b4 {l : Launch} {g : Gam} {b : Nat}   : ∀ (n : Nat) (x1 : Int32) (x2 : Int32) (x3 : Int32) (M : Mem) (z : Int32 × Mem), f_X10_toldOf_b4  n x1 x2 x3 M = some z → V l g (wM b) m_X10_toldOf 4 [(0, .ref (b + 0)), (1, .int x1), (2, .int x2), (3, .int x3)] [] M (some (.int z.1)) z.2 := by
  intro n
  induction n with
  | zero =>
    intro x1 x2 x3 M z  hf
    cases hf
  | succ n ih =>
    intro x1 x2 x3 M z  hf
    rw [f_X10_toldOf_b4] at hf
    refine V_iload_n (Y := m_X10_toldOf) (pc := 4) 3 dX10_toldOf_4 rfl ?_
    refine V_aload_n (Y := m_X10_toldOf) (pc := 5) 0 dX10_toldOf_5 rfl ?_
    refine V_grL (Y := m_X10_toldOf) (pc := 6) (x := 1) 0 kX10 sM_0 (by decide +kernel) rfl rfl tw_1070 dX10_toldOf_6 ?_
    refine V_iconst (Y := m_X10_toldOf) (pc := 9) (x := (3 : Int32)) dX10_toldOf_9 (by decide +kernel) ?_
    refine V_ialdL (Y := m_X10_toldOf) (pc := 10) (j := 3) sM_1 (by decide +kernel) rfl dX10_toldOf_10 ?_
    refine V_icmp_ge (Y := m_X10_toldOf) (pc := 11) (tgt := 46) dX10_toldOf_11 (by decide +kernel) hf (fun hf => ?_) (fun hf => ?_)
    · refine V_iload_n (Y := m_X10_toldOf) (pc := 46) 2 dX10_toldOf_46 rfl ?_
      obtain rfl := Option.some.inj hf
      exact V_iret (Y := m_X10_toldOf) rfl dX10_toldOf_47
    · refine V_iload_n (Y := m_X10_toldOf) (pc := 14) 2 dX10_toldOf_14 rfl ?_
      refine V_aload_n (Y := m_X10_toldOf) (pc := 15) 0 dX10_toldOf_15 rfl ?_
      refine V_aload_n (Y := m_X10_toldOf) (pc := 16) 0 dX10_toldOf_16 rfl ?_
      refine V_grL (Y := m_X10_toldOf) (pc := 17) (x := 1) 0 kX10 sM_0 (by decide +kernel) rfl rfl tw_1070 dX10_toldOf_17 ?_
      refine V_bipush (Y := m_X10_toldOf) (pc := 20) (x := (30 : Int32)) dX10_toldOf_20 (by decide +kernel) ?_
      refine V_iload_n (Y := m_X10_toldOf) (pc := 22) 3 dX10_toldOf_22 rfl ?_
      refine V_iadd (Y := m_X10_toldOf) (pc := 23) dX10_toldOf_23 ?_
      obtain ⟨hi1, hf⟩ := g_if hf
      refine V_iald (Y := m_X10_toldOf) (pc := 24) sM_1 hi1 dX10_toldOf_24 ?_
      refine V_iconst (Y := m_X10_toldOf) (pc := 25) (x := (1 : Int32)) dX10_toldOf_25 (by decide +kernel) ?_
      obtain ⟨q2, hq2, hf⟩ := g_bind hf
      refine V_cVi (Y := m_X10_toldOf) (pc := 26) (As := [.int (M 1 (ix ((30 : Int32) + x3))), .int (1 : Int32)]) yf_X10_field kX10 sM_0 (by decide +kernel) (ok_X10_field (M 1 (ix ((30 : Int32) + x3))) (1 : Int32) M _  hq2) tw_1244 tw_20 tw_1242 rfl rfl (Nat.le_of_ble_eq_true rfl) dX10_toldOf_26 ?_
      refine V_iload_n (Y := m_X10_toldOf) (pc := 29) 1 dX10_toldOf_29 rfl ?_
      refine V_icmp_ne (Y := m_X10_toldOf) (pc := 30) (tgt := 37) dX10_toldOf_30 (by decide +kernel) hf (fun hf => ?_) (fun hf => ?_)
      · refine V_iconst (Y := m_X10_toldOf) (pc := 37) (x := (0 : Int32)) dX10_toldOf_37 (by decide +kernel) ?_
        exact V_sub [0, 1, 3] rfl (ok_X10_toldOf_b38 (f_X10_toldOf_b4  n) ih x1 x3 (0 : Int32) x2 q2.2 z  hf)
      · refine V_iconst (Y := m_X10_toldOf) (pc := 33) (x := (1 : Int32)) dX10_toldOf_33 (by decide +kernel) ?_
        refine V_goto (Y := m_X10_toldOf) (pc := 34) (tgt := 38) dX10_toldOf_34 (by decide +kernel) ?_
        exact V_sub [0, 1, 3] rfl (ok_X10_toldOf_b38 (f_X10_toldOf_b4  n) ih x1 x3 (1 : Int32) x2 q2.2 z  hf)
def f_X10_toldOf_b0  (x1 : Int32) (M : Mem) : Option (Int32 × Mem) :=
  f_X10_toldOf_b4  FU x1 (0 : Int32) (0 : Int32) M
set_option maxRecDepth 20000 in
set_option maxHeartbeats 4000000 in
theorem ok_X10_toldOf_b0 {l : Launch} {g : Gam} {b : Nat}   (x1 : Int32) (M : Mem) (z : Int32 × Mem)  (hf : f_X10_toldOf_b0 x1 M = some z) : V l g (wM b) m_X10_toldOf 0 [(0, .ref (b + 0)), (1, .int x1)] [] M (some (.int z.1)) z.2 := by
  unfold f_X10_toldOf_b0 at hf
  refine V_iconst (Y := m_X10_toldOf) (pc := 0) (x := (0 : Int32)) dX10_toldOf_0 (by decide +kernel) ?_
  refine V_istore_n (Y := m_X10_toldOf) (pc := 1) [(2, .int (0 : Int32)), (0, .ref (b + 0)), (1, .int x1)] dX10_toldOf_1 (by decide +kernel) rfl ?_
  refine V_iconst (Y := m_X10_toldOf) (pc := 2) (x := (0 : Int32)) dX10_toldOf_2 (by decide +kernel) ?_
  refine V_istore_n (Y := m_X10_toldOf) (pc := 3) [(3, .int (0 : Int32)), (2, .int (0 : Int32)), (0, .ref (b + 0)), (1, .int x1)] dX10_toldOf_3 (by decide +kernel) rfl ?_
  exact V_sub [2, 3, 1, 0] rfl (ok_X10_toldOf_b4  FU x1 (0 : Int32) (0 : Int32) M z  hf)
def f_X10_toldOf (x1 : Int32) (M : Mem) : Option (Int32 × Mem) := f_X10_toldOf_b0 x1 M
set_option maxRecDepth 20000 in
set_option maxHeartbeats 4000000 in
theorem ok_X10_toldOf {l : Launch} {g : Gam} {b : Nat} : ∀ (x1 : Int32) (M : Mem) (z : Int32 × Mem), f_X10_toldOf x1 M = some z → Cn l g (wM b) m_X10_toldOf [.ref (b + 0), .int x1] M (some (.int z.1)) z.2 := fun x1 M z  hf => Cn_of (by decide +kernel) (Nat.le_of_ble_eq_true rfl) (V_sub [0, 1] rfl (ok_X10_toldOf_b0 x1 M z  hf))

abbrev m_X10_toldMark : Mth := (yX10_toldMark, cX10_toldMark, 5, some .int, 2)
theorem yf_X10_toldMark : YF m_X10_toldMark 2 := ⟨tw_1474, tw_75, by decide +kernel, by decide +kernel⟩
def f_X10_toldMark_b53 (k5 : Int32 → Int32 → Int32 → Mem → Option (Int32 × Mem)) (x1 : Int32) (x3 : Int32) (x4 : Int32) (M : Mem) : Option (Int32 × Mem) :=
  k5 x1 x3 (x4 + (1 : Int32)) M
set_option maxRecDepth 20000 in
set_option maxHeartbeats 4000000 in
theorem ok_X10_toldMark_b53 {l : Launch} {g : Gam} {b : Nat} (k5 : Int32 → Int32 → Int32 → Mem → Option (Int32 × Mem)) (hk5 : ∀ (x1 : Int32) (x3 : Int32) (x4 : Int32) (M : Mem) (z : Int32 × Mem), k5 x1 x3 x4 M = some z → V l g (wM b) m_X10_toldMark 5 [(0, .ref (b + 0)), (1, .int x1), (3, .int x3), (4, .int x4)] [] M (some (.int z.1)) z.2) (x1 : Int32) (x3 : Int32) (x4 : Int32) (M : Mem) (z : Int32 × Mem)  (hf : f_X10_toldMark_b53 k5 x1 x3 x4 M = some z) : V l g (wM b) m_X10_toldMark 53 [(0, .ref (b + 0)), (1, .int x1), (3, .int x3), (4, .int x4)] [] M (some (.int z.1)) z.2 := by
  unfold f_X10_toldMark_b53 at hf
  refine V_iinc (Y := m_X10_toldMark) (pc := 53) (y := (x4 + (1 : Int32))) 3 [(4, .int (x4 + (1 : Int32))), (0, .ref (b + 0)), (1, .int x1), (3, .int x3)] dX10_toldMark_53 rfl rfl (by decide +kernel) rfl ?_
  refine V_goto (Y := m_X10_toldMark) (pc := 56) (tgt := 5) dX10_toldMark_56 (by decide +kernel) ?_
  exact V_sub [1, 2, 3, 0] rfl (hk5 x1 x3 (x4 + (1 : Int32)) M z  hf)
def f_X10_toldMark_b39  (x4 : Int32) (M : Mem) : Option (Int32 × Mem) :=
  if ixb ((30 : Int32) + x4) 3300 = true then
  some ((M 1 (ix ((30 : Int32) + x4))), M)
  else none
set_option maxRecDepth 20000 in
set_option maxHeartbeats 4000000 in
theorem ok_X10_toldMark_b39 {l : Launch} {g : Gam} {b : Nat}   (x4 : Int32) (M : Mem) (z : Int32 × Mem)  (hf : f_X10_toldMark_b39 x4 M = some z) : V l g (wM b) m_X10_toldMark 39 [(0, .ref (b + 0)), (4, .int x4)] [] M (some (.int z.1)) z.2 := by
  unfold f_X10_toldMark_b39 at hf
  refine V_aload_n (Y := m_X10_toldMark) (pc := 39) 0 dX10_toldMark_39 rfl ?_
  refine V_grL (Y := m_X10_toldMark) (pc := 40) (x := 1) 0 kX10 sM_0 (by decide +kernel) rfl rfl tw_1070 dX10_toldMark_40 ?_
  refine V_bipush (Y := m_X10_toldMark) (pc := 43) (x := (30 : Int32)) dX10_toldMark_43 (by decide +kernel) ?_
  refine V_iload (Y := m_X10_toldMark) (pc := 45) 1 dX10_toldMark_45 rfl ?_
  refine V_iadd (Y := m_X10_toldMark) (pc := 47) dX10_toldMark_47 ?_
  obtain ⟨hi1, hf⟩ := g_if hf
  refine V_iald (Y := m_X10_toldMark) (pc := 48) sM_1 hi1 dX10_toldMark_48 ?_
  obtain rfl := Option.some.inj hf
  exact V_iret (Y := m_X10_toldMark) rfl dX10_toldMark_49
def f_X10_toldMark_b5  : Nat → Int32 → Int32 → Int32 → Mem → Option (Int32 × Mem)
  | 0, _, _, _, _ => none
  | n + 1, x1, x3, x4, M =>
    if (M 1 3) ≤ x4 then
      some ((-1 : Int32), M)
    else
      if ixb ((30 : Int32) + x4) 3300 = true then
      (f_X10_field (M 1 (ix ((30 : Int32) + x4))) (1 : Int32) M).bind fun q2 =>
      if q2.1 = x1 then
        if x3 = 0 then
          f_X10_toldMark_b39  x4 q2.2
        else
          f_X10_toldMark_b53 (f_X10_toldMark_b5  n) x1 (x3 + (-1 : Int32)) x4 q2.2
      else
        f_X10_toldMark_b53 (f_X10_toldMark_b5  n) x1 x3 x4 q2.2
      else none
set_option maxRecDepth 20000 in
set_option maxHeartbeats 4000000 in
theorem ok_X10_toldMark_b5 {l : Launch} {g : Gam} {b : Nat}   : ∀ (n : Nat) (x1 : Int32) (x3 : Int32) (x4 : Int32) (M : Mem) (z : Int32 × Mem), f_X10_toldMark_b5  n x1 x3 x4 M = some z → V l g (wM b) m_X10_toldMark 5 [(0, .ref (b + 0)), (1, .int x1), (3, .int x3), (4, .int x4)] [] M (some (.int z.1)) z.2 := by
  intro n
  induction n with
  | zero =>
    intro x1 x3 x4 M z  hf
    cases hf
  | succ n ih =>
    intro x1 x3 x4 M z  hf
    rw [f_X10_toldMark_b5] at hf
    refine V_iload (Y := m_X10_toldMark) (pc := 5) 3 dX10_toldMark_5 rfl ?_
    refine V_aload_n (Y := m_X10_toldMark) (pc := 7) 0 dX10_toldMark_7 rfl ?_
    refine V_grL (Y := m_X10_toldMark) (pc := 8) (x := 1) 0 kX10 sM_0 (by decide +kernel) rfl rfl tw_1070 dX10_toldMark_8 ?_
    refine V_iconst (Y := m_X10_toldMark) (pc := 11) (x := (3 : Int32)) dX10_toldMark_11 (by decide +kernel) ?_
    refine V_ialdL (Y := m_X10_toldMark) (pc := 12) (j := 3) sM_1 (by decide +kernel) rfl dX10_toldMark_12 ?_
    refine V_icmp_ge (Y := m_X10_toldMark) (pc := 13) (tgt := 59) dX10_toldMark_13 (by decide +kernel) hf (fun hf => ?_) (fun hf => ?_)
    · refine V_iconst (Y := m_X10_toldMark) (pc := 59) (x := (-1 : Int32)) dX10_toldMark_59 (by decide +kernel) ?_
      obtain rfl := Option.some.inj hf
      exact V_iret (Y := m_X10_toldMark) rfl dX10_toldMark_60
    · refine V_aload_n (Y := m_X10_toldMark) (pc := 16) 0 dX10_toldMark_16 rfl ?_
      refine V_aload_n (Y := m_X10_toldMark) (pc := 17) 0 dX10_toldMark_17 rfl ?_
      refine V_grL (Y := m_X10_toldMark) (pc := 18) (x := 1) 0 kX10 sM_0 (by decide +kernel) rfl rfl tw_1070 dX10_toldMark_18 ?_
      refine V_bipush (Y := m_X10_toldMark) (pc := 21) (x := (30 : Int32)) dX10_toldMark_21 (by decide +kernel) ?_
      refine V_iload (Y := m_X10_toldMark) (pc := 23) 3 dX10_toldMark_23 rfl ?_
      refine V_iadd (Y := m_X10_toldMark) (pc := 25) dX10_toldMark_25 ?_
      obtain ⟨hi1, hf⟩ := g_if hf
      refine V_iald (Y := m_X10_toldMark) (pc := 26) sM_1 hi1 dX10_toldMark_26 ?_
      refine V_iconst (Y := m_X10_toldMark) (pc := 27) (x := (1 : Int32)) dX10_toldMark_27 (by decide +kernel) ?_
      obtain ⟨q2, hq2, hf⟩ := g_bind hf
      refine V_cVi (Y := m_X10_toldMark) (pc := 28) (As := [.int (M 1 (ix ((30 : Int32) + x4))), .int (1 : Int32)]) yf_X10_field kX10 sM_0 (by decide +kernel) (ok_X10_field (M 1 (ix ((30 : Int32) + x4))) (1 : Int32) M _  hq2) tw_1244 tw_20 tw_1242 rfl rfl (Nat.le_of_ble_eq_true rfl) dX10_toldMark_28 ?_
      refine V_iload_n (Y := m_X10_toldMark) (pc := 31) 1 dX10_toldMark_31 rfl ?_
      refine V_icmp_ne (Y := m_X10_toldMark) (pc := 32) (tgt := 53) dX10_toldMark_32 (by decide +kernel) hf (fun hf => ?_) (fun hf => ?_)
      · exact V_sub [0, 1, 2, 3] rfl (ok_X10_toldMark_b53 (f_X10_toldMark_b5  n) ih x1 x3 x4 q2.2 z  hf)
      · refine V_iload_n (Y := m_X10_toldMark) (pc := 35) 2 dX10_toldMark_35 rfl ?_
        refine V_if_ne (Y := m_X10_toldMark) (pc := 36) (tgt := 50) dX10_toldMark_36 (by decide +kernel) hf (fun hf => ?_) (fun hf => ?_)
        · refine V_iinc (Y := m_X10_toldMark) (pc := 50) (y := (x3 + (-1 : Int32))) 2 [(3, .int (x3 + (-1 : Int32))), (0, .ref (b + 0)), (1, .int x1), (4, .int x4)] dX10_toldMark_50 rfl rfl (by decide +kernel) rfl ?_
          exact V_sub [1, 2, 0, 3] rfl (ok_X10_toldMark_b53 (f_X10_toldMark_b5  n) ih x1 (x3 + (-1 : Int32)) x4 q2.2 z  hf)
        · exact V_sub [0, 3] rfl (ok_X10_toldMark_b39  x4 q2.2 z  hf)
def f_X10_toldMark_b0  (x1 : Int32) (x2 : Int32) (M : Mem) : Option (Int32 × Mem) :=
  f_X10_toldMark_b5  FU x1 x2 (0 : Int32) M
set_option maxRecDepth 20000 in
set_option maxHeartbeats 4000000 in
theorem ok_X10_toldMark_b0 {l : Launch} {g : Gam} {b : Nat}   (x1 : Int32) (x2 : Int32) (M : Mem) (z : Int32 × Mem)  (hf : f_X10_toldMark_b0 x1 x2 M = some z) : V l g (wM b) m_X10_toldMark 0 [(0, .ref (b + 0)), (1, .int x1), (2, .int x2)] [] M (some (.int z.1)) z.2 := by
  unfold f_X10_toldMark_b0 at hf
  refine V_iload_n (Y := m_X10_toldMark) (pc := 0) 2 dX10_toldMark_0 rfl ?_
  refine V_istore_n (Y := m_X10_toldMark) (pc := 1) [(3, .int x2), (0, .ref (b + 0)), (1, .int x1), (2, .int x2)] dX10_toldMark_1 (by decide +kernel) rfl ?_
  refine V_iconst (Y := m_X10_toldMark) (pc := 2) (x := (0 : Int32)) dX10_toldMark_2 (by decide +kernel) ?_
  refine V_istore (Y := m_X10_toldMark) (pc := 3) [(4, .int (0 : Int32)), (3, .int x2), (0, .ref (b + 0)), (1, .int x1), (2, .int x2)] dX10_toldMark_3 (by decide +kernel) rfl ?_
  exact V_sub [2, 3, 1, 0] rfl (ok_X10_toldMark_b5  FU x1 x2 (0 : Int32) M z  hf)
def f_X10_toldMark (x1 : Int32) (x2 : Int32) (M : Mem) : Option (Int32 × Mem) := f_X10_toldMark_b0 x1 x2 M
set_option maxRecDepth 20000 in
set_option maxHeartbeats 4000000 in
theorem ok_X10_toldMark {l : Launch} {g : Gam} {b : Nat} : ∀ (x1 : Int32) (x2 : Int32) (M : Mem) (z : Int32 × Mem), f_X10_toldMark x1 x2 M = some z → Cn l g (wM b) m_X10_toldMark [.ref (b + 0), .int x1, .int x2] M (some (.int z.1)) z.2 := fun x1 x2 M z  hf => Cn_of (by decide +kernel) (Nat.le_of_ble_eq_true rfl) (V_sub [0, 1, 2] rfl (ok_X10_toldMark_b0 x1 x2 M z  hf))

abbrev m_X10_choose : Mth := (yX10_choose, cX10_choose, 3, some .int, 3)
theorem yf_X10_choose : YF m_X10_choose 1 := ⟨tw_1449, tw_75, by decide +kernel, by decide +kernel⟩
def f_X10_choose_bc90_1  (x2 : Int32) (M : Mem) : Option (Int32 × Mem) :=
  (f_X10_toldOf x2 M).bind fun q1 =>
  some (q1.1, q1.2)
set_option maxRecDepth 20000 in
set_option maxHeartbeats 4000000 in
theorem ok_X10_choose_bc90_1 {l : Launch} {g : Gam} {b : Nat}   (x2 : Int32) (M : Mem) (z : Int32 × Mem)  (hf : f_X10_choose_bc90_1 x2 M = some z) : V l g (wM b) m_X10_choose 90 [(0, .ref (b + 0)), (2, .int x2)] [] M (some (.int z.1)) z.2 := by
  unfold f_X10_choose_bc90_1 at hf
  refine V_aload_n (Y := m_X10_choose) (pc := 90) 0 dX10_choose_90 rfl ?_
  refine V_iload_n (Y := m_X10_choose) (pc := 91) 1 dX10_choose_91 rfl ?_
  obtain ⟨q1, hq1, hf⟩ := g_bind hf
  refine V_cVi (Y := m_X10_choose) (pc := 92) (As := [.int x2]) yf_X10_toldOf kX10 sM_0 (by decide +kernel) (ok_X10_toldOf x2 M _  hq1) tw_1453 tw_50 tw_1451 rfl rfl (Nat.le_of_ble_eq_true rfl) dX10_choose_92 ?_
  obtain rfl := Option.some.inj hf
  exact V_iret (Y := m_X10_choose) rfl dX10_choose_95
def f_X10_choose_b46  (x1 : Int32) (M : Mem) : Option (Int32 × Mem) :=
  (f_X10_field x1 (1 : Int32) M).bind fun q1 =>
  (f_X10_toldOf q1.1 q1.2).bind fun q2 =>
  if q2.1 = (5 : Int32) then
    some ((-1000000003 : Int32), q2.2)
  else
    if ixb ((30 : Int32) + (q2.2 1 3)) 3300 = true then
    f_X10_choose_bc90_1  q1.1 (mset (mset q2.2 1 (ix ((30 : Int32) + (q2.2 1 3))) x1) 1 3 (((mset q2.2 1 (ix ((30 : Int32) + (q2.2 1 3))) x1) 1 3) + (1 : Int32)))
    else none
set_option maxRecDepth 20000 in
set_option maxHeartbeats 4000000 in
theorem ok_X10_choose_b46 {l : Launch} {g : Gam} {b : Nat}   (x1 : Int32) (M : Mem) (z : Int32 × Mem)  (hf : f_X10_choose_b46 x1 M = some z) : V l g (wM b) m_X10_choose 46 [(0, .ref (b + 0)), (1, .int x1)] [] M (some (.int z.1)) z.2 := by
  unfold f_X10_choose_b46 at hf
  refine V_aload_n (Y := m_X10_choose) (pc := 46) 0 dX10_choose_46 rfl ?_
  refine V_iload_n (Y := m_X10_choose) (pc := 47) 1 dX10_choose_47 rfl ?_
  refine V_iconst (Y := m_X10_choose) (pc := 48) (x := (1 : Int32)) dX10_choose_48 (by decide +kernel) ?_
  obtain ⟨q1, hq1, hf⟩ := g_bind hf
  refine V_cVi (Y := m_X10_choose) (pc := 49) (As := [.int x1, .int (1 : Int32)]) yf_X10_field kX10 sM_0 (by decide +kernel) (ok_X10_field x1 (1 : Int32) M _  hq1) tw_1244 tw_20 tw_1242 rfl rfl (Nat.le_of_ble_eq_true rfl) dX10_choose_49 ?_
  refine V_istore_n (Y := m_X10_choose) (pc := 52) [(2, .int q1.1), (0, .ref (b + 0)), (1, .int x1)] dX10_choose_52 (by decide +kernel) rfl ?_
  refine V_aload_n (Y := m_X10_choose) (pc := 53) 1 dX10_choose_53 rfl ?_
  refine V_iload_n (Y := m_X10_choose) (pc := 54) 0 dX10_choose_54 rfl ?_
  obtain ⟨q2, hq2, hf⟩ := g_bind hf
  refine V_cVi (Y := m_X10_choose) (pc := 55) (As := [.int q1.1]) yf_X10_toldOf kX10 sM_0 (by decide +kernel) (ok_X10_toldOf q1.1 q1.2 _  hq2) tw_1453 tw_50 tw_1451 rfl rfl (Nat.le_of_ble_eq_true rfl) dX10_choose_55 ?_
  refine V_iconst (Y := m_X10_choose) (pc := 58) (x := (5 : Int32)) dX10_choose_58 (by decide +kernel) ?_
  refine V_icmp_ne (Y := m_X10_choose) (pc := 59) (tgt := 65) dX10_choose_59 (by decide +kernel) hf (fun hf => ?_) (fun hf => ?_)
  · refine V_aload_n (Y := m_X10_choose) (pc := 65) 1 dX10_choose_65 rfl ?_
    refine V_grL (Y := m_X10_choose) (pc := 66) (x := 1) 0 kX10 sM_0 (by decide +kernel) rfl rfl tw_1070 dX10_choose_66 ?_
    refine V_bipush (Y := m_X10_choose) (pc := 69) (x := (30 : Int32)) dX10_choose_69 (by decide +kernel) ?_
    refine V_aload_n (Y := m_X10_choose) (pc := 71) 1 dX10_choose_71 rfl ?_
    refine V_grL (Y := m_X10_choose) (pc := 72) (x := 1) 0 kX10 sM_0 (by decide +kernel) rfl rfl tw_1070 dX10_choose_72 ?_
    refine V_iconst (Y := m_X10_choose) (pc := 75) (x := (3 : Int32)) dX10_choose_75 (by decide +kernel) ?_
    refine V_ialdL (Y := m_X10_choose) (pc := 76) (j := 3) sM_1 (by decide +kernel) rfl dX10_choose_76 ?_
    refine V_iadd (Y := m_X10_choose) (pc := 77) dX10_choose_77 ?_
    refine V_iload_n (Y := m_X10_choose) (pc := 78) 2 dX10_choose_78 rfl ?_
    obtain ⟨hi3, hf⟩ := g_if hf
    refine V_iast (Y := m_X10_choose) (pc := 79) sM_1 hi3 dX10_choose_79 ?_
    refine V_aload_n (Y := m_X10_choose) (pc := 80) 1 dX10_choose_80 rfl ?_
    refine V_grL (Y := m_X10_choose) (pc := 81) (x := 1) 0 kX10 sM_0 (by decide +kernel) rfl rfl tw_1070 dX10_choose_81 ?_
    refine V_iconst (Y := m_X10_choose) (pc := 84) (x := (3 : Int32)) dX10_choose_84 (by decide +kernel) ?_
    refine V_dup2 (Y := m_X10_choose) (pc := 85) dX10_choose_85 rfl rfl ?_
    refine V_ialdL (Y := m_X10_choose) (pc := 86) (j := 3) sM_1 (by decide +kernel) rfl dX10_choose_86 ?_
    refine V_iconst (Y := m_X10_choose) (pc := 87) (x := (1 : Int32)) dX10_choose_87 (by decide +kernel) ?_
    refine V_iadd (Y := m_X10_choose) (pc := 88) dX10_choose_88 ?_
    refine V_iastL (Y := m_X10_choose) (pc := 89) (j := 3) sM_1 (by decide +kernel) rfl dX10_choose_89 ?_
    exact V_sub [1, 0] rfl (ok_X10_choose_bc90_1  q1.1 (mset (mset q2.2 1 (ix ((30 : Int32) + (q2.2 1 3))) x1) 1 3 (((mset q2.2 1 (ix ((30 : Int32) + (q2.2 1 3))) x1) 1 3) + (1 : Int32))) z  hf)
  · refine V_ldc (Y := m_X10_choose) (pc := 62) (x := (-1000000003 : Int32)) dX10_choose_62 tw_1225 ?_
    obtain rfl := Option.some.inj hf
    exact V_iret (Y := m_X10_choose) rfl dX10_choose_64
def f_X10_choose_b36   (M : Mem) : Option (Int32 × Mem) :=
  some ((-1000000002 : Int32), M)
set_option maxRecDepth 20000 in
set_option maxHeartbeats 4000000 in
theorem ok_X10_choose_b36 {l : Launch} {g : Gam} {b : Nat}    (M : Mem) (z : Int32 × Mem)  (hf : f_X10_choose_b36  M = some z) : V l g (wM b) m_X10_choose 36 [] [] M (some (.int z.1)) z.2 := by
  unfold f_X10_choose_b36 at hf
  refine V_ldcw (Y := m_X10_choose) (pc := 36) (x := (-1000000002 : Int32)) dX10_choose_36 tw_1450 ?_
  obtain rfl := Option.some.inj hf
  exact V_iret (Y := m_X10_choose) rfl dX10_choose_39
def f_X10_choose_b13  : Nat → Int32 → Int32 → Mem → Option (Int32 × Mem)
  | 0, _, _, _ => none
  | n + 1, x1, x2, M =>
    if (M 1 3) ≤ x2 then
      f_X10_choose_b46  x1 M
    else
      if ixb ((30 : Int32) + x2) 3300 = true then
      if (M 1 (ix ((30 : Int32) + x2))) = x1 then
        f_X10_choose_b36   M
      else
        f_X10_choose_b13  n x1 (x2 + (1 : Int32)) M
      else none
set_option maxRecDepth 20000 in
set_option maxHeartbeats 4000000 in
theorem ok_X10_choose_b13 {l : Launch} {g : Gam} {b : Nat}   : ∀ (n : Nat) (x1 : Int32) (x2 : Int32) (M : Mem) (z : Int32 × Mem), f_X10_choose_b13  n x1 x2 M = some z → V l g (wM b) m_X10_choose 13 [(0, .ref (b + 0)), (1, .int x1), (2, .int x2)] [] M (some (.int z.1)) z.2 := by
  intro n
  induction n with
  | zero =>
    intro x1 x2 M z  hf
    cases hf
  | succ n ih =>
    intro x1 x2 M z  hf
    rw [f_X10_choose_b13] at hf
    refine V_iload_n (Y := m_X10_choose) (pc := 13) 2 dX10_choose_13 rfl ?_
    refine V_aload_n (Y := m_X10_choose) (pc := 14) 0 dX10_choose_14 rfl ?_
    refine V_grL (Y := m_X10_choose) (pc := 15) (x := 1) 0 kX10 sM_0 (by decide +kernel) rfl rfl tw_1070 dX10_choose_15 ?_
    refine V_iconst (Y := m_X10_choose) (pc := 18) (x := (3 : Int32)) dX10_choose_18 (by decide +kernel) ?_
    refine V_ialdL (Y := m_X10_choose) (pc := 19) (j := 3) sM_1 (by decide +kernel) rfl dX10_choose_19 ?_
    refine V_icmp_ge (Y := m_X10_choose) (pc := 20) (tgt := 46) dX10_choose_20 (by decide +kernel) hf (fun hf => ?_) (fun hf => ?_)
    · exact V_sub [0, 1] rfl (ok_X10_choose_b46  x1 M z  hf)
    · refine V_aload_n (Y := m_X10_choose) (pc := 23) 0 dX10_choose_23 rfl ?_
      refine V_grL (Y := m_X10_choose) (pc := 24) (x := 1) 0 kX10 sM_0 (by decide +kernel) rfl rfl tw_1070 dX10_choose_24 ?_
      refine V_bipush (Y := m_X10_choose) (pc := 27) (x := (30 : Int32)) dX10_choose_27 (by decide +kernel) ?_
      refine V_iload_n (Y := m_X10_choose) (pc := 29) 2 dX10_choose_29 rfl ?_
      refine V_iadd (Y := m_X10_choose) (pc := 30) dX10_choose_30 ?_
      obtain ⟨hi1, hf⟩ := g_if hf
      refine V_iald (Y := m_X10_choose) (pc := 31) sM_1 hi1 dX10_choose_31 ?_
      refine V_iload_n (Y := m_X10_choose) (pc := 32) 1 dX10_choose_32 rfl ?_
      refine V_icmp_ne (Y := m_X10_choose) (pc := 33) (tgt := 40) dX10_choose_33 (by decide +kernel) hf (fun hf => ?_) (fun hf => ?_)
      · refine V_iinc (Y := m_X10_choose) (pc := 40) (y := (x2 + (1 : Int32))) 2 [(2, .int (x2 + (1 : Int32))), (0, .ref (b + 0)), (1, .int x1)] dX10_choose_40 rfl rfl (by decide +kernel) rfl ?_
        refine V_goto (Y := m_X10_choose) (pc := 43) (tgt := 13) dX10_choose_43 (by decide +kernel) ?_
        exact V_sub [1, 2, 0] rfl (ih x1 (x2 + (1 : Int32)) M z  hf)
      · exact V_sub [] rfl (ok_X10_choose_b36   M z  hf)
def f_X10_choose_b0  (x1 : Int32) (M : Mem) : Option (Int32 × Mem) :=
  (f_X10_isMark x1 M).bind fun q1 =>
  if q1.1 = 0 then
    some ((-1000000001 : Int32), q1.2)
  else
    f_X10_choose_b13  FU x1 (0 : Int32) q1.2
set_option maxRecDepth 20000 in
set_option maxHeartbeats 4000000 in
theorem ok_X10_choose_b0 {l : Launch} {g : Gam} {b : Nat}   (x1 : Int32) (M : Mem) (z : Int32 × Mem)  (hf : f_X10_choose_b0 x1 M = some z) : V l g (wM b) m_X10_choose 0 [(0, .ref (b + 0)), (1, .int x1)] [] M (some (.int z.1)) z.2 := by
  unfold f_X10_choose_b0 at hf
  refine V_aload_n (Y := m_X10_choose) (pc := 0) 0 dX10_choose_0 rfl ?_
  refine V_iload_n (Y := m_X10_choose) (pc := 1) 1 dX10_choose_1 rfl ?_
  obtain ⟨q1, hq1, hf⟩ := g_bind hf
  refine V_cVi (Y := m_X10_choose) (pc := 2) (As := [.int x1]) yf_X10_isMark kX10 sM_0 (by decide +kernel) (ok_X10_isMark x1 M _  hq1) tw_1240 tw_19 tw_1238 rfl rfl (Nat.le_of_ble_eq_true rfl) dX10_choose_2 ?_
  refine V_if_ne (Y := m_X10_choose) (pc := 5) (tgt := 11) dX10_choose_5 (by decide +kernel) hf (fun hf => ?_) (fun hf => ?_)
  · refine V_iconst (Y := m_X10_choose) (pc := 11) (x := (0 : Int32)) dX10_choose_11 (by decide +kernel) ?_
    refine V_istore_n (Y := m_X10_choose) (pc := 12) [(2, .int (0 : Int32)), (0, .ref (b + 0)), (1, .int x1)] dX10_choose_12 (by decide +kernel) rfl ?_
    exact V_sub [1, 2, 0] rfl (ok_X10_choose_b13  FU x1 (0 : Int32) q1.2 z  hf)
  · refine V_ldc (Y := m_X10_choose) (pc := 8) (x := (-1000000001 : Int32)) dX10_choose_8 tw_1224 ?_
    obtain rfl := Option.some.inj hf
    exact V_iret (Y := m_X10_choose) rfl dX10_choose_10
def f_X10_choose (x1 : Int32) (M : Mem) : Option (Int32 × Mem) := f_X10_choose_b0 x1 M
set_option maxRecDepth 20000 in
set_option maxHeartbeats 4000000 in
theorem ok_X10_choose {l : Launch} {g : Gam} {b : Nat} : ∀ (x1 : Int32) (M : Mem) (z : Int32 × Mem), f_X10_choose x1 M = some z → Cn l g (wM b) m_X10_choose [.ref (b + 0), .int x1] M (some (.int z.1)) z.2 := fun x1 M z  hf => Cn_of (by decide +kernel) (Nat.le_of_ble_eq_true rfl) (V_sub [0, 1] rfl (ok_X10_choose_b0 x1 M z  hf))

abbrev m_X10_clear : Mth := (yX10_clear, cX10_clear, 1, some .int, 2)
theorem yf_X10_clear : YF m_X10_clear 0 := ⟨tw_1458, tw_75, by decide +kernel, by decide +kernel⟩
def f_X10_clear_b0   (M : Mem) : Option (Int32 × Mem) :=
  (f_X10_becomes (3 : Int32) (0 : Int32) M).bind fun q1 =>
  some (q1.1, q1.2)
set_option maxRecDepth 20000 in
set_option maxHeartbeats 4000000 in
theorem ok_X10_clear_b0 {l : Launch} {g : Gam} {b : Nat}    (M : Mem) (z : Int32 × Mem)  (hf : f_X10_clear_b0  M = some z) : V l g (wM b) m_X10_clear 0 [(0, .ref (b + 0))] [] M (some (.int z.1)) z.2 := by
  unfold f_X10_clear_b0 at hf
  refine V_aload_n (Y := m_X10_clear) (pc := 0) 0 dX10_clear_0 rfl ?_
  refine V_iconst (Y := m_X10_clear) (pc := 1) (x := (3 : Int32)) dX10_clear_1 (by decide +kernel) ?_
  refine V_iconst (Y := m_X10_clear) (pc := 2) (x := (0 : Int32)) dX10_clear_2 (by decide +kernel) ?_
  obtain ⟨q1, hq1, hf⟩ := g_bind hf
  refine V_cVi (Y := m_X10_clear) (pc := 3) (As := [.int (3 : Int32), .int (0 : Int32)]) yf_X10_becomes kX10 sM_0 (by decide +kernel) (ok_X10_becomes (3 : Int32) (0 : Int32) M _  hq1) tw_1311 tw_30 tw_1309 rfl rfl (Nat.le_of_ble_eq_true rfl) dX10_clear_3 ?_
  obtain rfl := Option.some.inj hf
  exact V_iret (Y := m_X10_clear) rfl dX10_clear_6
def f_X10_clear  (M : Mem) : Option (Int32 × Mem) := f_X10_clear_b0  M
set_option maxRecDepth 20000 in
set_option maxHeartbeats 4000000 in
theorem ok_X10_clear {l : Launch} {g : Gam} {b : Nat} : ∀  (M : Mem) (z : Int32 × Mem), f_X10_clear  M = some z → Cn l g (wM b) m_X10_clear [.ref (b + 0)] M (some (.int z.1)) z.2 := fun  M z  hf => Cn_of (by decide +kernel) (Nat.le_of_ble_eq_true rfl) (V_sub [0] rfl (ok_X10_clear_b0  M z  hf))

abbrev m_X10_tries (n : Nat) : Mth := (yX10_tries, cX10_tries, 6, none, 1 + n)
theorem yf_X10_tries (n : Nat) : YF (m_X10_tries n) 4 := ⟨tw_1481, tw_75, (show yX10_tries.cls ≠ "java/lang/invoke/MethodHandle" ∧ yX10_tries.cls ≠ "java/lang/invoke/VarHandle" ∧ (parseMethodDescriptor yX10_tries.desc).map (fun d => d.parameters.length) = some 4 by decide +kernel), Nat.le_of_ble_eq_true rfl⟩
def f_X10_tries_b155 (rc_X10_tries : Int32 → Int32 → Int32 → Int32 → Mem → Option (Int32 × Mem))  (x1 : Int32) (x2 : Int32) (x3 : Int32) (x4 : Int32) (M : Mem) : Option (Int32 × Mem) :=
  if ixb x1 5 = true then
  (rc_X10_tries (x1 + (1 : Int32)) x2 x3 x4 (mset M 16 (ix x1) (-1 : Int32))).bind fun q2 =>
  some (0, q2.2)
  else none
set_option maxRecDepth 20000 in
set_option maxHeartbeats 4000000 in
theorem ok_X10_tries_b155 {l : Launch} {g : Gam} {b : Nat} (rc_X10_tries : Int32 → Int32 → Int32 → Int32 → Mem → Option (Int32 × Mem)) {dn : Nat} (hrc_X10_tries : ∀ (x1 : Int32) (x2 : Int32) (x3 : Int32) (x4 : Int32) (M : Mem) (z : Int32 × Mem), rc_X10_tries x1 x2 x3 x4 M = some z → Cn l g (wM b) (m_X10_tries dn) [.ref (b + 0), .int x1, .int x2, .int x3, .int x4] M none z.2)   (x1 : Int32) (x2 : Int32) (x3 : Int32) (x4 : Int32) (M : Mem) (z : Int32 × Mem)  (hf : f_X10_tries_b155 rc_X10_tries x1 x2 x3 x4 M = some z) : V l g (wM b) (m_X10_tries (dn + 1)) 155 [(0, .ref (b + 0)), (1, .int x1), (2, .int x2), (3, .int x3), (4, .int x4)] [] M none z.2 := by
  unfold f_X10_tries_b155 at hf
  refine V_aload_n (Y := (m_X10_tries (dn + 1))) (pc := 155) 0 dX10_tries_155 rfl ?_
  refine V_grL (Y := (m_X10_tries (dn + 1))) (pc := 156) (x := 16) 34 kX10 sM_0 (by decide +kernel) rfl rfl tw_1104 dX10_tries_156 ?_
  refine V_iload_n (Y := (m_X10_tries (dn + 1))) (pc := 159) 1 dX10_tries_159 rfl ?_
  refine V_iconst (Y := (m_X10_tries (dn + 1))) (pc := 160) (x := (-1 : Int32)) dX10_tries_160 (by decide +kernel) ?_
  obtain ⟨hi1, hf⟩ := g_if hf
  refine V_iast (Y := (m_X10_tries (dn + 1))) (pc := 161) sM_16 hi1 dX10_tries_161 ?_
  refine V_aload_n (Y := (m_X10_tries (dn + 1))) (pc := 162) 0 dX10_tries_162 rfl ?_
  refine V_iload_n (Y := (m_X10_tries (dn + 1))) (pc := 163) 1 dX10_tries_163 rfl ?_
  refine V_iconst (Y := (m_X10_tries (dn + 1))) (pc := 164) (x := (1 : Int32)) dX10_tries_164 (by decide +kernel) ?_
  refine V_iadd (Y := (m_X10_tries (dn + 1))) (pc := 165) dX10_tries_165 ?_
  refine V_iload_n (Y := (m_X10_tries (dn + 1))) (pc := 166) 2 dX10_tries_166 rfl ?_
  refine V_iload_n (Y := (m_X10_tries (dn + 1))) (pc := 167) 3 dX10_tries_167 rfl ?_
  refine V_iload (Y := (m_X10_tries (dn + 1))) (pc := 168) 4 dX10_tries_168 rfl ?_
  obtain ⟨q2, hq2, hf⟩ := g_bind hf
  refine V_cVv (Y := (m_X10_tries (dn + 1))) (pc := 170) (As := [.int (x1 + (1 : Int32)), .int x2, .int x3, .int x4]) (yf_X10_tries dn) kX10 sM_0 (by show 1 + dn < 1 + (dn + 1); omega) (hrc_X10_tries (x1 + (1 : Int32)) x2 x3 x4 (mset M 16 (ix x1) (-1 : Int32)) _  hq2) tw_1480 tw_53 tw_1478 rfl rfl (Nat.le_of_ble_eq_true rfl) dX10_tries_170 ?_
  obtain rfl := Option.some.inj hf
  exact V_vret (Y := (m_X10_tries (dn + 1))) rfl dX10_tries_173
def f_X10_tries_b149 (rc_X10_tries : Int32 → Int32 → Int32 → Int32 → Mem → Option (Int32 × Mem)) (k78 : Int32 → Int32 → Int32 → Int32 → Int32 → Mem → Option (Int32 × Mem)) (x1 : Int32) (x2 : Int32) (x3 : Int32) (x4 : Int32) (x5 : Int32) (M : Mem) : Option (Int32 × Mem) :=
  k78 x1 x2 x3 x4 (x5 + (1 : Int32)) M
set_option maxRecDepth 20000 in
set_option maxHeartbeats 4000000 in
theorem ok_X10_tries_b149 {l : Launch} {g : Gam} {b : Nat} (rc_X10_tries : Int32 → Int32 → Int32 → Int32 → Mem → Option (Int32 × Mem)) {dn : Nat} (hrc_X10_tries : ∀ (x1 : Int32) (x2 : Int32) (x3 : Int32) (x4 : Int32) (M : Mem) (z : Int32 × Mem), rc_X10_tries x1 x2 x3 x4 M = some z → Cn l g (wM b) (m_X10_tries dn) [.ref (b + 0), .int x1, .int x2, .int x3, .int x4] M none z.2) (k78 : Int32 → Int32 → Int32 → Int32 → Int32 → Mem → Option (Int32 × Mem)) (hk78 : ∀ (x1 : Int32) (x2 : Int32) (x3 : Int32) (x4 : Int32) (x5 : Int32) (M : Mem) (z : Int32 × Mem), k78 x1 x2 x3 x4 x5 M = some z → V l g (wM b) (m_X10_tries (dn + 1)) 78 [(0, .ref (b + 0)), (1, .int x1), (2, .int x2), (3, .int x3), (4, .int x4), (5, .int x5)] [] M none z.2) (x1 : Int32) (x2 : Int32) (x3 : Int32) (x4 : Int32) (x5 : Int32) (M : Mem) (z : Int32 × Mem)  (hf : f_X10_tries_b149 rc_X10_tries k78 x1 x2 x3 x4 x5 M = some z) : V l g (wM b) (m_X10_tries (dn + 1)) 149 [(0, .ref (b + 0)), (1, .int x1), (2, .int x2), (3, .int x3), (4, .int x4), (5, .int x5)] [] M none z.2 := by
  unfold f_X10_tries_b149 at hf
  refine V_iinc (Y := (m_X10_tries (dn + 1))) (pc := 149) (y := (x5 + (1 : Int32))) 5 [(5, .int (x5 + (1 : Int32))), (0, .ref (b + 0)), (1, .int x1), (2, .int x2), (3, .int x3), (4, .int x4)] dX10_tries_149 rfl rfl (Nat.le_of_ble_eq_true rfl) rfl ?_
  refine V_goto (Y := (m_X10_tries (dn + 1))) (pc := 152) (tgt := 78) dX10_tries_152 (by decide +kernel) ?_
  exact V_sub [1, 2, 3, 4, 5, 0] rfl (hk78 x1 x2 x3 x4 (x5 + (1 : Int32)) M z  hf)
def f_X10_tries_b78 (rc_X10_tries : Int32 → Int32 → Int32 → Int32 → Mem → Option (Int32 × Mem))  : Nat → Int32 → Int32 → Int32 → Int32 → Int32 → Mem → Option (Int32 × Mem)
  | 0, _, _, _, _, _, _ => none
  | n + 1, x1, x2, x3, x4, x5, M =>
    if (M 0 33) ≤ x5 then
      f_X10_tries_b155 rc_X10_tries x1 x2 x3 x4 M
    else
      if ((x4 >>> (x5 &&& 31)) &&& (1 : Int32)) = 0 then
        if ixb (((5 : Int32) * x1) + x5) 25 = true then
        if (M 15 (ix (((5 : Int32) * x1) + x5))) < 0 then
          f_X10_tries_b149 rc_X10_tries (f_X10_tries_b78 rc_X10_tries n) x1 x2 x3 x4 x5 M
        else
          if ixb x1 5 = true then
          if ixb (((5 : Int32) * x1) + x5) 25 = true then
          (rc_X10_tries (x1 + (1 : Int32)) (x2 + (1 : Int32)) (x3 + ((mset M 16 (ix x1) x5) 15 (ix (((5 : Int32) * x1) + x5)))) (x4 ||| ((1 : Int32) <<< (x5 &&& 31))) (mset M 16 (ix x1) x5)).bind fun q4 =>
          f_X10_tries_b149 rc_X10_tries (f_X10_tries_b78 rc_X10_tries n) x1 x2 x3 x4 x5 q4.2
          else none
          else none
        else none
      else
        f_X10_tries_b149 rc_X10_tries (f_X10_tries_b78 rc_X10_tries n) x1 x2 x3 x4 x5 M
set_option maxRecDepth 20000 in
set_option maxHeartbeats 4000000 in
theorem ok_X10_tries_b78 {l : Launch} {g : Gam} {b : Nat} (rc_X10_tries : Int32 → Int32 → Int32 → Int32 → Mem → Option (Int32 × Mem)) {dn : Nat} (hrc_X10_tries : ∀ (x1 : Int32) (x2 : Int32) (x3 : Int32) (x4 : Int32) (M : Mem) (z : Int32 × Mem), rc_X10_tries x1 x2 x3 x4 M = some z → Cn l g (wM b) (m_X10_tries dn) [.ref (b + 0), .int x1, .int x2, .int x3, .int x4] M none z.2)   : ∀ (n : Nat) (x1 : Int32) (x2 : Int32) (x3 : Int32) (x4 : Int32) (x5 : Int32) (M : Mem) (z : Int32 × Mem), f_X10_tries_b78 rc_X10_tries n x1 x2 x3 x4 x5 M = some z → V l g (wM b) (m_X10_tries (dn + 1)) 78 [(0, .ref (b + 0)), (1, .int x1), (2, .int x2), (3, .int x3), (4, .int x4), (5, .int x5)] [] M none z.2 := by
  intro n
  induction n with
  | zero =>
    intro x1 x2 x3 x4 x5 M z  hf
    cases hf
  | succ n ih =>
    intro x1 x2 x3 x4 x5 M z  hf
    rw [f_X10_tries_b78] at hf
    refine V_iload (Y := (m_X10_tries (dn + 1))) (pc := 78) 5 dX10_tries_78 rfl ?_
    refine V_aload_n (Y := (m_X10_tries (dn + 1))) (pc := 80) 0 dX10_tries_80 rfl ?_
    refine V_gi (Y := (m_X10_tries (dn + 1))) (pc := 81) 33 kX10 sM_0 (by decide +kernel) rfl tw_1103 dX10_tries_81 ?_
    refine V_icmp_ge (Y := (m_X10_tries (dn + 1))) (pc := 84) (tgt := 155) dX10_tries_84 (by decide +kernel) hf (fun hf => ?_) (fun hf => ?_)
    · exact V_sub [0, 1, 2, 3, 4] rfl (ok_X10_tries_b155 rc_X10_tries hrc_X10_tries x1 x2 x3 x4 M z  hf)
    · refine V_iload (Y := (m_X10_tries (dn + 1))) (pc := 87) 4 dX10_tries_87 rfl ?_
      refine V_iload (Y := (m_X10_tries (dn + 1))) (pc := 89) 5 dX10_tries_89 rfl ?_
      refine V_ishr (Y := (m_X10_tries (dn + 1))) (pc := 91) dX10_tries_91 ?_
      refine V_iconst (Y := (m_X10_tries (dn + 1))) (pc := 92) (x := (1 : Int32)) dX10_tries_92 (by decide +kernel) ?_
      refine V_iand (Y := (m_X10_tries (dn + 1))) (pc := 93) dX10_tries_93 ?_
      refine V_if_ne (Y := (m_X10_tries (dn + 1))) (pc := 94) (tgt := 149) dX10_tries_94 (by decide +kernel) hf (fun hf => ?_) (fun hf => ?_)
      · exact V_sub [0, 1, 2, 3, 4, 5] rfl (ok_X10_tries_b149 rc_X10_tries hrc_X10_tries (f_X10_tries_b78 rc_X10_tries n) ih x1 x2 x3 x4 x5 M z  hf)
      · refine V_aload_n (Y := (m_X10_tries (dn + 1))) (pc := 97) 0 dX10_tries_97 rfl ?_
        refine V_grL (Y := (m_X10_tries (dn + 1))) (pc := 98) (x := 15) 31 kX10 sM_0 (by decide +kernel) rfl rfl tw_1101 dX10_tries_98 ?_
        refine V_iconst (Y := (m_X10_tries (dn + 1))) (pc := 101) (x := (5 : Int32)) dX10_tries_101 (by decide +kernel) ?_
        refine V_iload_n (Y := (m_X10_tries (dn + 1))) (pc := 102) 1 dX10_tries_102 rfl ?_
        refine V_imul (Y := (m_X10_tries (dn + 1))) (pc := 103) dX10_tries_103 ?_
        refine V_iload (Y := (m_X10_tries (dn + 1))) (pc := 104) 5 dX10_tries_104 rfl ?_
        refine V_iadd (Y := (m_X10_tries (dn + 1))) (pc := 106) dX10_tries_106 ?_
        obtain ⟨hi1, hf⟩ := g_if hf
        refine V_iald (Y := (m_X10_tries (dn + 1))) (pc := 107) sM_15 hi1 dX10_tries_107 ?_
        refine V_if_lt (Y := (m_X10_tries (dn + 1))) (pc := 108) (tgt := 149) dX10_tries_108 (by decide +kernel) hf (fun hf => ?_) (fun hf => ?_)
        · exact V_sub [0, 1, 2, 3, 4, 5] rfl (ok_X10_tries_b149 rc_X10_tries hrc_X10_tries (f_X10_tries_b78 rc_X10_tries n) ih x1 x2 x3 x4 x5 M z  hf)
        · refine V_aload_n (Y := (m_X10_tries (dn + 1))) (pc := 111) 0 dX10_tries_111 rfl ?_
          refine V_grL (Y := (m_X10_tries (dn + 1))) (pc := 112) (x := 16) 34 kX10 sM_0 (by decide +kernel) rfl rfl tw_1104 dX10_tries_112 ?_
          refine V_iload_n (Y := (m_X10_tries (dn + 1))) (pc := 115) 1 dX10_tries_115 rfl ?_
          refine V_iload (Y := (m_X10_tries (dn + 1))) (pc := 116) 5 dX10_tries_116 rfl ?_
          obtain ⟨hi2, hf⟩ := g_if hf
          refine V_iast (Y := (m_X10_tries (dn + 1))) (pc := 118) sM_16 hi2 dX10_tries_118 ?_
          refine V_aload_n (Y := (m_X10_tries (dn + 1))) (pc := 119) 0 dX10_tries_119 rfl ?_
          refine V_iload_n (Y := (m_X10_tries (dn + 1))) (pc := 120) 1 dX10_tries_120 rfl ?_
          refine V_iconst (Y := (m_X10_tries (dn + 1))) (pc := 121) (x := (1 : Int32)) dX10_tries_121 (by decide +kernel) ?_
          refine V_iadd (Y := (m_X10_tries (dn + 1))) (pc := 122) dX10_tries_122 ?_
          refine V_iload_n (Y := (m_X10_tries (dn + 1))) (pc := 123) 2 dX10_tries_123 rfl ?_
          refine V_iconst (Y := (m_X10_tries (dn + 1))) (pc := 124) (x := (1 : Int32)) dX10_tries_124 (by decide +kernel) ?_
          refine V_iadd (Y := (m_X10_tries (dn + 1))) (pc := 125) dX10_tries_125 ?_
          refine V_iload_n (Y := (m_X10_tries (dn + 1))) (pc := 126) 3 dX10_tries_126 rfl ?_
          refine V_aload_n (Y := (m_X10_tries (dn + 1))) (pc := 127) 0 dX10_tries_127 rfl ?_
          refine V_grL (Y := (m_X10_tries (dn + 1))) (pc := 128) (x := 15) 31 kX10 sM_0 (by decide +kernel) rfl rfl tw_1101 dX10_tries_128 ?_
          refine V_iconst (Y := (m_X10_tries (dn + 1))) (pc := 131) (x := (5 : Int32)) dX10_tries_131 (by decide +kernel) ?_
          refine V_iload_n (Y := (m_X10_tries (dn + 1))) (pc := 132) 1 dX10_tries_132 rfl ?_
          refine V_imul (Y := (m_X10_tries (dn + 1))) (pc := 133) dX10_tries_133 ?_
          refine V_iload (Y := (m_X10_tries (dn + 1))) (pc := 134) 5 dX10_tries_134 rfl ?_
          refine V_iadd (Y := (m_X10_tries (dn + 1))) (pc := 136) dX10_tries_136 ?_
          obtain ⟨hi3, hf⟩ := g_if hf
          refine V_iald (Y := (m_X10_tries (dn + 1))) (pc := 137) sM_15 hi3 dX10_tries_137 ?_
          refine V_iadd (Y := (m_X10_tries (dn + 1))) (pc := 138) dX10_tries_138 ?_
          refine V_iload (Y := (m_X10_tries (dn + 1))) (pc := 139) 4 dX10_tries_139 rfl ?_
          refine V_iconst (Y := (m_X10_tries (dn + 1))) (pc := 141) (x := (1 : Int32)) dX10_tries_141 (by decide +kernel) ?_
          refine V_iload (Y := (m_X10_tries (dn + 1))) (pc := 142) 5 dX10_tries_142 rfl ?_
          refine V_ishl (Y := (m_X10_tries (dn + 1))) (pc := 144) dX10_tries_144 ?_
          refine V_ior (Y := (m_X10_tries (dn + 1))) (pc := 145) dX10_tries_145 ?_
          obtain ⟨q4, hq4, hf⟩ := g_bind hf
          refine V_cVv (Y := (m_X10_tries (dn + 1))) (pc := 146) (As := [.int (x1 + (1 : Int32)), .int (x2 + (1 : Int32)), .int (x3 + ((mset M 16 (ix x1) x5) 15 (ix (((5 : Int32) * x1) + x5)))), .int (x4 ||| ((1 : Int32) <<< (x5 &&& 31)))]) (yf_X10_tries dn) kX10 sM_0 (by show 1 + dn < 1 + (dn + 1); omega) (hrc_X10_tries (x1 + (1 : Int32)) (x2 + (1 : Int32)) (x3 + ((mset M 16 (ix x1) x5) 15 (ix (((5 : Int32) * x1) + x5)))) (x4 ||| ((1 : Int32) <<< (x5 &&& 31))) (mset M 16 (ix x1) x5) _  hq4) tw_1480 tw_53 tw_1478 rfl rfl (Nat.le_of_ble_eq_true rfl) dX10_tries_146 ?_
          exact V_sub [0, 1, 2, 3, 4, 5] rfl (ok_X10_tries_b149 rc_X10_tries hrc_X10_tries (f_X10_tries_b78 rc_X10_tries n) ih x1 x2 x3 x4 x5 q4.2 z  hf)
def f_X10_tries_b45 (rc_X10_tries : Int32 → Int32 → Int32 → Int32 → Mem → Option (Int32 × Mem))  : Nat → Int32 → Mem → Option (Int32 × Mem)
  | 0, _, _ => none
  | n + 1, x5, M =>
    if (M 0 32) ≤ x5 then
      some (0, M)
    else
      if ixb x5 5 = true then
      if ixb x5 5 = true then
      f_X10_tries_b45 rc_X10_tries n (x5 + (1 : Int32)) (mset M 17 (ix x5) (M 16 (ix x5)))
      else none
      else none
set_option maxRecDepth 20000 in
set_option maxHeartbeats 4000000 in
theorem ok_X10_tries_b45 {l : Launch} {g : Gam} {b : Nat} (rc_X10_tries : Int32 → Int32 → Int32 → Int32 → Mem → Option (Int32 × Mem)) {dn : Nat} (hrc_X10_tries : ∀ (x1 : Int32) (x2 : Int32) (x3 : Int32) (x4 : Int32) (M : Mem) (z : Int32 × Mem), rc_X10_tries x1 x2 x3 x4 M = some z → Cn l g (wM b) (m_X10_tries dn) [.ref (b + 0), .int x1, .int x2, .int x3, .int x4] M none z.2)   : ∀ (n : Nat) (x5 : Int32) (M : Mem) (z : Int32 × Mem), f_X10_tries_b45 rc_X10_tries n x5 M = some z → V l g (wM b) (m_X10_tries (dn + 1)) 45 [(0, .ref (b + 0)), (5, .int x5)] [] M none z.2 := by
  intro n
  induction n with
  | zero =>
    intro x5 M z  hf
    cases hf
  | succ n ih =>
    intro x5 M z  hf
    rw [f_X10_tries_b45] at hf
    refine V_iload (Y := (m_X10_tries (dn + 1))) (pc := 45) 1 dX10_tries_45 rfl ?_
    refine V_aload_n (Y := (m_X10_tries (dn + 1))) (pc := 47) 0 dX10_tries_47 rfl ?_
    refine V_gi (Y := (m_X10_tries (dn + 1))) (pc := 48) 32 kX10 sM_0 (by decide +kernel) rfl tw_1102 dX10_tries_48 ?_
    refine V_icmp_ge (Y := (m_X10_tries (dn + 1))) (pc := 51) (tgt := 74) dX10_tries_51 (by decide +kernel) hf (fun hf => ?_) (fun hf => ?_)
    · obtain rfl := Option.some.inj hf
      exact V_vret (Y := (m_X10_tries (dn + 1))) rfl dX10_tries_74
    · refine V_aload_n (Y := (m_X10_tries (dn + 1))) (pc := 54) 0 dX10_tries_54 rfl ?_
      refine V_grL (Y := (m_X10_tries (dn + 1))) (pc := 55) (x := 17) 35 kX10 sM_0 (by decide +kernel) rfl rfl tw_1105 dX10_tries_55 ?_
      refine V_iload (Y := (m_X10_tries (dn + 1))) (pc := 58) 1 dX10_tries_58 rfl ?_
      refine V_aload_n (Y := (m_X10_tries (dn + 1))) (pc := 60) 0 dX10_tries_60 rfl ?_
      refine V_grL (Y := (m_X10_tries (dn + 1))) (pc := 61) (x := 16) 34 kX10 sM_0 (by decide +kernel) rfl rfl tw_1104 dX10_tries_61 ?_
      refine V_iload (Y := (m_X10_tries (dn + 1))) (pc := 64) 1 dX10_tries_64 rfl ?_
      obtain ⟨hi1, hf⟩ := g_if hf
      refine V_iald (Y := (m_X10_tries (dn + 1))) (pc := 66) sM_16 hi1 dX10_tries_66 ?_
      obtain ⟨hi2, hf⟩ := g_if hf
      refine V_iast (Y := (m_X10_tries (dn + 1))) (pc := 67) sM_17 hi2 dX10_tries_67 ?_
      refine V_iinc (Y := (m_X10_tries (dn + 1))) (pc := 68) (y := (x5 + (1 : Int32))) 1 [(5, .int (x5 + (1 : Int32))), (0, .ref (b + 0))] dX10_tries_68 rfl rfl (Nat.le_of_ble_eq_true rfl) rfl ?_
      refine V_goto (Y := (m_X10_tries (dn + 1))) (pc := 71) (tgt := 45) dX10_tries_71 (by decide +kernel) ?_
      exact V_sub [1, 0] rfl (ih (x5 + (1 : Int32)) (mset M 17 (ix x5) (M 16 (ix x5))) z  hf)
def f_X10_tries_b32 (rc_X10_tries : Int32 → Int32 → Int32 → Int32 → Mem → Option (Int32 × Mem))  (x2 : Int32) (x3 : Int32) (M : Mem) : Option (Int32 × Mem) :=
  f_X10_tries_b45 rc_X10_tries FU (0 : Int32) (mset (mset M 0 36 x2) 0 37 x3)
set_option maxRecDepth 20000 in
set_option maxHeartbeats 4000000 in
theorem ok_X10_tries_b32 {l : Launch} {g : Gam} {b : Nat} (rc_X10_tries : Int32 → Int32 → Int32 → Int32 → Mem → Option (Int32 × Mem)) {dn : Nat} (hrc_X10_tries : ∀ (x1 : Int32) (x2 : Int32) (x3 : Int32) (x4 : Int32) (M : Mem) (z : Int32 × Mem), rc_X10_tries x1 x2 x3 x4 M = some z → Cn l g (wM b) (m_X10_tries dn) [.ref (b + 0), .int x1, .int x2, .int x3, .int x4] M none z.2)   (x2 : Int32) (x3 : Int32) (M : Mem) (z : Int32 × Mem)  (hf : f_X10_tries_b32 rc_X10_tries x2 x3 M = some z) : V l g (wM b) (m_X10_tries (dn + 1)) 32 [(0, .ref (b + 0)), (2, .int x2), (3, .int x3)] [] M none z.2 := by
  unfold f_X10_tries_b32 at hf
  refine V_aload_n (Y := (m_X10_tries (dn + 1))) (pc := 32) 0 dX10_tries_32 rfl ?_
  refine V_iload_n (Y := (m_X10_tries (dn + 1))) (pc := 33) 1 dX10_tries_33 rfl ?_
  refine V_pi (Y := (m_X10_tries (dn + 1))) (pc := 34) 36 kX10 sM_0 (by decide +kernel) rfl rfl rfl tw_1106 dX10_tries_34 ?_
  refine V_aload_n (Y := (m_X10_tries (dn + 1))) (pc := 37) 0 dX10_tries_37 rfl ?_
  refine V_iload_n (Y := (m_X10_tries (dn + 1))) (pc := 38) 2 dX10_tries_38 rfl ?_
  refine V_pi (Y := (m_X10_tries (dn + 1))) (pc := 39) 37 kX10 sM_0 (by decide +kernel) rfl rfl rfl tw_1107 dX10_tries_39 ?_
  refine V_iconst (Y := (m_X10_tries (dn + 1))) (pc := 42) (x := (0 : Int32)) dX10_tries_42 (by decide +kernel) ?_
  refine V_istore (Y := (m_X10_tries (dn + 1))) (pc := 43) [(5, .int (0 : Int32)), (0, .ref (b + 0)), (2, .int x2), (3, .int x3)] dX10_tries_43 (Nat.le_of_ble_eq_true rfl) rfl ?_
  exact V_sub [1, 0] rfl (ok_X10_tries_b45 rc_X10_tries hrc_X10_tries FU (0 : Int32) (mset (mset M 0 36 x2) 0 37 x3) z  hf)
def f_X10_tries_b0 (rc_X10_tries : Int32 → Int32 → Int32 → Int32 → Mem → Option (Int32 × Mem))  (x1 : Int32) (x2 : Int32) (x3 : Int32) (x4 : Int32) (M : Mem) : Option (Int32 × Mem) :=
  if x1 = (M 0 32) then
    if (M 0 36) < x2 then
      f_X10_tries_b32 rc_X10_tries x2 x3 M
    else
      if x2 = (M 0 36) then
        if (M 0 37) ≤ x3 then
          some (0, M)
        else
          f_X10_tries_b32 rc_X10_tries x2 x3 M
      else
        some (0, M)
  else
    f_X10_tries_b78 rc_X10_tries FU x1 x2 x3 x4 (0 : Int32) M
set_option maxRecDepth 20000 in
set_option maxHeartbeats 4000000 in
theorem ok_X10_tries_b0 {l : Launch} {g : Gam} {b : Nat} (rc_X10_tries : Int32 → Int32 → Int32 → Int32 → Mem → Option (Int32 × Mem)) {dn : Nat} (hrc_X10_tries : ∀ (x1 : Int32) (x2 : Int32) (x3 : Int32) (x4 : Int32) (M : Mem) (z : Int32 × Mem), rc_X10_tries x1 x2 x3 x4 M = some z → Cn l g (wM b) (m_X10_tries dn) [.ref (b + 0), .int x1, .int x2, .int x3, .int x4] M none z.2)   (x1 : Int32) (x2 : Int32) (x3 : Int32) (x4 : Int32) (M : Mem) (z : Int32 × Mem)  (hf : f_X10_tries_b0 rc_X10_tries x1 x2 x3 x4 M = some z) : V l g (wM b) (m_X10_tries (dn + 1)) 0 [(0, .ref (b + 0)), (1, .int x1), (2, .int x2), (3, .int x3), (4, .int x4)] [] M none z.2 := by
  unfold f_X10_tries_b0 at hf
  refine V_iload_n (Y := (m_X10_tries (dn + 1))) (pc := 0) 1 dX10_tries_0 rfl ?_
  refine V_aload_n (Y := (m_X10_tries (dn + 1))) (pc := 1) 0 dX10_tries_1 rfl ?_
  refine V_gi (Y := (m_X10_tries (dn + 1))) (pc := 2) 32 kX10 sM_0 (by decide +kernel) rfl tw_1102 dX10_tries_2 ?_
  refine V_icmp_ne (Y := (m_X10_tries (dn + 1))) (pc := 5) (tgt := 75) dX10_tries_5 (by decide +kernel) hf (fun hf => ?_) (fun hf => ?_)
  · refine V_iconst (Y := (m_X10_tries (dn + 1))) (pc := 75) (x := (0 : Int32)) dX10_tries_75 (by decide +kernel) ?_
    refine V_istore (Y := (m_X10_tries (dn + 1))) (pc := 76) [(5, .int (0 : Int32)), (0, .ref (b + 0)), (1, .int x1), (2, .int x2), (3, .int x3), (4, .int x4)] dX10_tries_76 (Nat.le_of_ble_eq_true rfl) rfl ?_
    exact V_sub [1, 2, 3, 4, 5, 0] rfl (ok_X10_tries_b78 rc_X10_tries hrc_X10_tries FU x1 x2 x3 x4 (0 : Int32) M z  hf)
  · refine V_iload_n (Y := (m_X10_tries (dn + 1))) (pc := 8) 2 dX10_tries_8 rfl ?_
    refine V_aload_n (Y := (m_X10_tries (dn + 1))) (pc := 9) 0 dX10_tries_9 rfl ?_
    refine V_gi (Y := (m_X10_tries (dn + 1))) (pc := 10) 36 kX10 sM_0 (by decide +kernel) rfl tw_1106 dX10_tries_10 ?_
    refine V_icmp_gt (Y := (m_X10_tries (dn + 1))) (pc := 13) (tgt := 32) dX10_tries_13 (by decide +kernel) hf (fun hf => ?_) (fun hf => ?_)
    · exact V_sub [0, 2, 3] rfl (ok_X10_tries_b32 rc_X10_tries hrc_X10_tries x2 x3 M z  hf)
    · refine V_iload_n (Y := (m_X10_tries (dn + 1))) (pc := 16) 2 dX10_tries_16 rfl ?_
      refine V_aload_n (Y := (m_X10_tries (dn + 1))) (pc := 17) 0 dX10_tries_17 rfl ?_
      refine V_gi (Y := (m_X10_tries (dn + 1))) (pc := 18) 36 kX10 sM_0 (by decide +kernel) rfl tw_1106 dX10_tries_18 ?_
      refine V_icmp_ne (Y := (m_X10_tries (dn + 1))) (pc := 21) (tgt := 74) dX10_tries_21 (by decide +kernel) hf (fun hf => ?_) (fun hf => ?_)
      · obtain rfl := Option.some.inj hf
        exact V_vret (Y := (m_X10_tries (dn + 1))) rfl dX10_tries_74
      · refine V_iload_n (Y := (m_X10_tries (dn + 1))) (pc := 24) 3 dX10_tries_24 rfl ?_
        refine V_aload_n (Y := (m_X10_tries (dn + 1))) (pc := 25) 0 dX10_tries_25 rfl ?_
        refine V_gi (Y := (m_X10_tries (dn + 1))) (pc := 26) 37 kX10 sM_0 (by decide +kernel) rfl tw_1107 dX10_tries_26 ?_
        refine V_icmp_ge (Y := (m_X10_tries (dn + 1))) (pc := 29) (tgt := 74) dX10_tries_29 (by decide +kernel) hf (fun hf => ?_) (fun hf => ?_)
        · obtain rfl := Option.some.inj hf
          exact V_vret (Y := (m_X10_tries (dn + 1))) rfl dX10_tries_74
        · exact V_sub [0, 2, 3] rfl (ok_X10_tries_b32 rc_X10_tries hrc_X10_tries x2 x3 M z  hf)
set_option maxRecDepth 20000 in
set_option maxHeartbeats 4000000 in
def G_X10_tries : Nat → (Int32 → Int32 → Int32 → Int32 → Mem → Option (Int32 × Mem))
  | 0 => (fun _ _ _ _ _ => none)
  | n + 1 => (f_X10_tries_b0 ((G_X10_tries n)))
def f_X10_tries (n : Nat) : (Int32 → Int32 → Int32 → Int32 → Mem → Option (Int32 × Mem)) := (G_X10_tries n)
theorem ok_G_X10_tries {l : Launch} {g : Gam} {b : Nat} : ∀ n : Nat, (∀ (x1 : Int32) (x2 : Int32) (x3 : Int32) (x4 : Int32) (M : Mem) (z : Int32 × Mem), (G_X10_tries n) x1 x2 x3 x4 M = some z → Cn l g (wM b) (m_X10_tries n) [.ref (b + 0), .int x1, .int x2, .int x3, .int x4] M none z.2) := by
  intro n
  induction n with
  | zero => exact (fun _ _ _ _ _ _ hf => by cases hf)
  | succ n ih =>
    exact fun x1 x2 x3 x4 M z  hf => Cn_of (show plainName yX10_tries.cls = true by decide +kernel) (Nat.le_of_ble_eq_true rfl) (ok_X10_tries_b0 _ (ih) x1 x2 x3 x4 M z  hf)
theorem ok_X10_tries {l : Launch} {g : Gam} {b : Nat} (n : Nat) : ∀ (x1 : Int32) (x2 : Int32) (x3 : Int32) (x4 : Int32) (M : Mem) (z : Int32 × Mem), f_X10_tries n x1 x2 x3 x4 M = some z → Cn l g (wM b) (m_X10_tries n) [.ref (b + 0), .int x1, .int x2, .int x3, .int x4] M none z.2 := (ok_G_X10_tries n)

abbrev m_X10_findMatch : Mth := (yX10_findMatch, cX10_findMatch, 8, none, 122)
theorem yf_X10_findMatch : YF m_X10_findMatch 2 := ⟨tw_1470, tw_75, by decide +kernel, by decide +kernel⟩
def f_X10_findMatch_b122   (M : Mem) : Option (Int32 × Mem) :=
  (f_X10_tries FR (0 : Int32) (0 : Int32) (0 : Int32) (0 : Int32) (mset (mset M 0 36 (-1 : Int32)) 0 37 (0 : Int32))).bind fun q1 =>
  some (0, q1.2)
set_option maxRecDepth 20000 in
set_option maxHeartbeats 4000000 in
theorem ok_X10_findMatch_b122 {l : Launch} {g : Gam} {b : Nat}    (M : Mem) (z : Int32 × Mem)  (hf : f_X10_findMatch_b122  M = some z) : V l g (wM b) m_X10_findMatch 122 [(0, .ref (b + 0))] [] M none z.2 := by
  unfold f_X10_findMatch_b122 at hf
  refine V_aload_n (Y := m_X10_findMatch) (pc := 122) 0 dX10_findMatch_122 rfl ?_
  refine V_iconst (Y := m_X10_findMatch) (pc := 123) (x := (-1 : Int32)) dX10_findMatch_123 (by decide +kernel) ?_
  refine V_pi (Y := m_X10_findMatch) (pc := 124) 36 kX10 sM_0 (by decide +kernel) rfl rfl rfl tw_1106 dX10_findMatch_124 ?_
  refine V_aload_n (Y := m_X10_findMatch) (pc := 127) 0 dX10_findMatch_127 rfl ?_
  refine V_iconst (Y := m_X10_findMatch) (pc := 128) (x := (0 : Int32)) dX10_findMatch_128 (by decide +kernel) ?_
  refine V_pi (Y := m_X10_findMatch) (pc := 129) 37 kX10 sM_0 (by decide +kernel) rfl rfl rfl tw_1107 dX10_findMatch_129 ?_
  refine V_aload_n (Y := m_X10_findMatch) (pc := 132) 0 dX10_findMatch_132 rfl ?_
  refine V_iconst (Y := m_X10_findMatch) (pc := 133) (x := (0 : Int32)) dX10_findMatch_133 (by decide +kernel) ?_
  refine V_iconst (Y := m_X10_findMatch) (pc := 134) (x := (0 : Int32)) dX10_findMatch_134 (by decide +kernel) ?_
  refine V_iconst (Y := m_X10_findMatch) (pc := 135) (x := (0 : Int32)) dX10_findMatch_135 (by decide +kernel) ?_
  refine V_iconst (Y := m_X10_findMatch) (pc := 136) (x := (0 : Int32)) dX10_findMatch_136 (by decide +kernel) ?_
  obtain ⟨q1, hq1, hf⟩ := g_bind hf
  refine V_cVv (Y := m_X10_findMatch) (pc := 137) (As := [.int (0 : Int32), .int (0 : Int32), .int (0 : Int32), .int (0 : Int32)]) (yf_X10_tries FR) kX10 sM_0 (by decide +kernel) (ok_X10_tries FR (0 : Int32) (0 : Int32) (0 : Int32) (0 : Int32) (mset (mset M 0 36 (-1 : Int32)) 0 37 (0 : Int32)) _  hq1) tw_1480 tw_53 tw_1478 rfl rfl (Nat.le_of_ble_eq_true rfl) dX10_findMatch_137 ?_
  obtain rfl := Option.some.inj hf
  exact V_vret (Y := m_X10_findMatch) rfl dX10_findMatch_140
def f_X10_findMatch_b116 (k20 : Int32 → Int32 → Int32 → Mem → Option (Int32 × Mem)) (x1 : Int32) (x2 : Int32) (x3 : Int32) (M : Mem) : Option (Int32 × Mem) :=
  k20 x1 x2 (x3 + (1 : Int32)) M
set_option maxRecDepth 20000 in
set_option maxHeartbeats 4000000 in
theorem ok_X10_findMatch_b116 {l : Launch} {g : Gam} {b : Nat} (k20 : Int32 → Int32 → Int32 → Mem → Option (Int32 × Mem)) (hk20 : ∀ (x1 : Int32) (x2 : Int32) (x3 : Int32) (M : Mem) (z : Int32 × Mem), k20 x1 x2 x3 M = some z → V l g (wM b) m_X10_findMatch 20 [(0, .ref (b + 0)), (1, .int x1), (2, .int x2), (3, .int x3)] [] M none z.2) (x1 : Int32) (x2 : Int32) (x3 : Int32) (M : Mem) (z : Int32 × Mem)  (hf : f_X10_findMatch_b116 k20 x1 x2 x3 M = some z) : V l g (wM b) m_X10_findMatch 116 [(0, .ref (b + 0)), (1, .int x1), (2, .int x2), (3, .int x3)] [] M none z.2 := by
  unfold f_X10_findMatch_b116 at hf
  refine V_iinc (Y := m_X10_findMatch) (pc := 116) (y := (x3 + (1 : Int32))) 3 [(3, .int (x3 + (1 : Int32))), (0, .ref (b + 0)), (1, .int x1), (2, .int x2)] dX10_findMatch_116 rfl rfl (by decide +kernel) rfl ?_
  refine V_goto (Y := m_X10_findMatch) (pc := 119) (tgt := 20) dX10_findMatch_119 (by decide +kernel) ?_
  exact V_sub [1, 2, 3, 0] rfl (hk20 x1 x2 (x3 + (1 : Int32)) M z  hf)
def f_X10_findMatch_b109 (k20 : Int32 → Int32 → Int32 → Mem → Option (Int32 × Mem)) (k31 : Int32 → Int32 → Int32 → Int32 → Mem → Option (Int32 × Mem)) (x1 : Int32) (x2 : Int32) (x3 : Int32) (x4 : Int32) (s0 : Int32) (s1 : Int32) (M : Mem) : Option (Int32 × Mem) :=
  if ixb s1 25 = true then
  k31 x1 x2 x3 (x4 + (1 : Int32)) (mset M 15 (ix s1) s0)
  else none
set_option maxRecDepth 20000 in
set_option maxHeartbeats 4000000 in
theorem ok_X10_findMatch_b109 {l : Launch} {g : Gam} {b : Nat} (k20 : Int32 → Int32 → Int32 → Mem → Option (Int32 × Mem)) (k31 : Int32 → Int32 → Int32 → Int32 → Mem → Option (Int32 × Mem)) (hk20 : ∀ (x1 : Int32) (x2 : Int32) (x3 : Int32) (M : Mem) (z : Int32 × Mem), k20 x1 x2 x3 M = some z → V l g (wM b) m_X10_findMatch 20 [(0, .ref (b + 0)), (1, .int x1), (2, .int x2), (3, .int x3)] [] M none z.2) (hk31 : ∀ (x1 : Int32) (x2 : Int32) (x3 : Int32) (x4 : Int32) (M : Mem) (z : Int32 × Mem), k31 x1 x2 x3 x4 M = some z → V l g (wM b) m_X10_findMatch 31 [(0, .ref (b + 0)), (1, .int x1), (2, .int x2), (3, .int x3), (4, .int x4)] [] M none z.2) (x1 : Int32) (x2 : Int32) (x3 : Int32) (x4 : Int32) (s0 : Int32) (s1 : Int32) (M : Mem) (z : Int32 × Mem)  (hf : f_X10_findMatch_b109 k20 k31 x1 x2 x3 x4 s0 s1 M = some z) : V l g (wM b) m_X10_findMatch 109 [(0, .ref (b + 0)), (1, .int x1), (2, .int x2), (3, .int x3), (4, .int x4)] [.int s0, .int s1, .ref (b + 15)] M none z.2 := by
  unfold f_X10_findMatch_b109 at hf
  obtain ⟨hi1, hf⟩ := g_if hf
  refine V_iast (Y := m_X10_findMatch) (pc := 109) sM_15 hi1 dX10_findMatch_109 ?_
  refine V_iinc (Y := m_X10_findMatch) (pc := 110) (y := (x4 + (1 : Int32))) 4 [(4, .int (x4 + (1 : Int32))), (0, .ref (b + 0)), (1, .int x1), (2, .int x2), (3, .int x3)] dX10_findMatch_110 rfl rfl (by decide +kernel) rfl ?_
  refine V_goto (Y := m_X10_findMatch) (pc := 113) (tgt := 31) dX10_findMatch_113 (by decide +kernel) ?_
  exact V_sub [1, 2, 3, 4, 0] rfl (hk31 x1 x2 x3 (x4 + (1 : Int32)) (mset M 15 (ix s1) s0) z  hf)
def f_X10_findMatch_b31 (k20 : Int32 → Int32 → Int32 → Mem → Option (Int32 × Mem)) : Nat → Int32 → Int32 → Int32 → Int32 → Mem → Option (Int32 × Mem)
  | 0, _, _, _, _, _ => none
  | n + 1, x1, x2, x3, x4, M =>
    if (M 0 33) ≤ x4 then
      f_X10_findMatch_b116 k20 x1 x2 x3 M
    else
      (f_X10_toldMark x1 x3 M).bind fun q1 =>
      (f_X10_toldMark x2 x4 q1.2).bind fun q2 =>
      (f_X10_says q1.1 q2.2).bind fun q3 =>
      (f_X10_says q2.1 q3.2).bind fun q4 =>
      (f_X10_size (q3.1 - q4.1) q4.2).bind fun q5 =>
      (f_X10_spanOf q1.1 q5.2).bind fun q6 =>
      (f_X10_spanOf q2.1 q6.2).bind fun q7 =>
      if (q6.1 + q7.1) < q5.1 then
        f_X10_findMatch_b109 k20 (f_X10_findMatch_b31 k20 n) x1 x2 x3 x4 (-1 : Int32) (((5 : Int32) * x3) + x4) q7.2
      else
        f_X10_findMatch_b109 k20 (f_X10_findMatch_b31 k20 n) x1 x2 x3 x4 q5.1 (((5 : Int32) * x3) + x4) q7.2
set_option maxRecDepth 20000 in
set_option maxHeartbeats 4000000 in
theorem ok_X10_findMatch_b31 {l : Launch} {g : Gam} {b : Nat} (k20 : Int32 → Int32 → Int32 → Mem → Option (Int32 × Mem)) (hk20 : ∀ (x1 : Int32) (x2 : Int32) (x3 : Int32) (M : Mem) (z : Int32 × Mem), k20 x1 x2 x3 M = some z → V l g (wM b) m_X10_findMatch 20 [(0, .ref (b + 0)), (1, .int x1), (2, .int x2), (3, .int x3)] [] M none z.2) : ∀ (n : Nat) (x1 : Int32) (x2 : Int32) (x3 : Int32) (x4 : Int32) (M : Mem) (z : Int32 × Mem), f_X10_findMatch_b31 k20 n x1 x2 x3 x4 M = some z → V l g (wM b) m_X10_findMatch 31 [(0, .ref (b + 0)), (1, .int x1), (2, .int x2), (3, .int x3), (4, .int x4)] [] M none z.2 := by
  intro n
  induction n with
  | zero =>
    intro x1 x2 x3 x4 M z  hf
    cases hf
  | succ n ih =>
    intro x1 x2 x3 x4 M z  hf
    rw [f_X10_findMatch_b31] at hf
    refine V_iload (Y := m_X10_findMatch) (pc := 31) 4 dX10_findMatch_31 rfl ?_
    refine V_aload_n (Y := m_X10_findMatch) (pc := 33) 0 dX10_findMatch_33 rfl ?_
    refine V_gi (Y := m_X10_findMatch) (pc := 34) 33 kX10 sM_0 (by decide +kernel) rfl tw_1103 dX10_findMatch_34 ?_
    refine V_icmp_ge (Y := m_X10_findMatch) (pc := 37) (tgt := 116) dX10_findMatch_37 (by decide +kernel) hf (fun hf => ?_) (fun hf => ?_)
    · exact V_sub [0, 1, 2, 3] rfl (ok_X10_findMatch_b116 k20 hk20 x1 x2 x3 M z  hf)
    · refine V_aload_n (Y := m_X10_findMatch) (pc := 40) 0 dX10_findMatch_40 rfl ?_
      refine V_iload_n (Y := m_X10_findMatch) (pc := 41) 1 dX10_findMatch_41 rfl ?_
      refine V_iload_n (Y := m_X10_findMatch) (pc := 42) 3 dX10_findMatch_42 rfl ?_
      obtain ⟨q1, hq1, hf⟩ := g_bind hf
      refine V_cVi (Y := m_X10_findMatch) (pc := 43) (As := [.int x1, .int x3]) yf_X10_toldMark kX10 sM_0 (by decide +kernel) (ok_X10_toldMark x1 x3 M _  hq1) tw_1473 tw_52 tw_1471 rfl rfl (Nat.le_of_ble_eq_true rfl) dX10_findMatch_43 ?_
      refine V_istore (Y := m_X10_findMatch) (pc := 46) [(5, .int q1.1), (0, .ref (b + 0)), (1, .int x1), (2, .int x2), (3, .int x3), (4, .int x4)] dX10_findMatch_46 (by decide +kernel) rfl ?_
      refine V_aload_n (Y := m_X10_findMatch) (pc := 48) 1 dX10_findMatch_48 rfl ?_
      refine V_iload_n (Y := m_X10_findMatch) (pc := 49) 3 dX10_findMatch_49 rfl ?_
      refine V_iload (Y := m_X10_findMatch) (pc := 50) 5 dX10_findMatch_50 rfl ?_
      obtain ⟨q2, hq2, hf⟩ := g_bind hf
      refine V_cVi (Y := m_X10_findMatch) (pc := 52) (As := [.int x2, .int x4]) yf_X10_toldMark kX10 sM_0 (by decide +kernel) (ok_X10_toldMark x2 x4 q1.2 _  hq2) tw_1473 tw_52 tw_1471 rfl rfl (Nat.le_of_ble_eq_true rfl) dX10_findMatch_52 ?_
      refine V_istore (Y := m_X10_findMatch) (pc := 55) [(6, .int q2.1), (5, .int q1.1), (0, .ref (b + 0)), (1, .int x1), (2, .int x2), (3, .int x3), (4, .int x4)] dX10_findMatch_55 (by decide +kernel) rfl ?_
      refine V_aload_n (Y := m_X10_findMatch) (pc := 57) 2 dX10_findMatch_57 rfl ?_
      refine V_iload (Y := m_X10_findMatch) (pc := 58) 1 dX10_findMatch_58 rfl ?_
      obtain ⟨q3, hq3, hf⟩ := g_bind hf
      refine V_cVi (Y := m_X10_findMatch) (pc := 60) (As := [.int q1.1]) yf_X10_says kX10 sM_0 (by decide +kernel) (ok_X10_says q1.1 q2.2 _  hq3) tw_1252 tw_21 tw_1250 rfl rfl (Nat.le_of_ble_eq_true rfl) dX10_findMatch_60 ?_
      refine V_aload_n (Y := m_X10_findMatch) (pc := 63) 2 dX10_findMatch_63 rfl ?_
      refine V_iload (Y := m_X10_findMatch) (pc := 64) 0 dX10_findMatch_64 rfl ?_
      obtain ⟨q4, hq4, hf⟩ := g_bind hf
      refine V_cVi (Y := m_X10_findMatch) (pc := 66) (As := [.int q2.1]) yf_X10_says kX10 sM_0 (by decide +kernel) (ok_X10_says q2.1 q3.2 _  hq4) tw_1252 tw_21 tw_1250 rfl rfl (Nat.le_of_ble_eq_true rfl) dX10_findMatch_66 ?_
      refine V_isub (Y := m_X10_findMatch) (pc := 69) dX10_findMatch_69 ?_
      obtain ⟨q5, hq5, hf⟩ := g_bind hf
      refine V_cSi (Y := m_X10_findMatch) (pc := 70) (As := [.int (q3.1 - q4.1)]) yf_X10_size (by decide +kernel) (ok_X10_size (q3.1 - q4.1) q4.2 _  hq5) tw_1476 tw_1475 rfl rfl (Nat.le_of_ble_eq_true rfl) dX10_findMatch_70 ?_
      refine V_istore (Y := m_X10_findMatch) (pc := 73) [(7, .int q5.1), (6, .int q2.1), (5, .int q1.1), (0, .ref (b + 0)), (1, .int x1), (2, .int x2), (3, .int x3), (4, .int x4)] dX10_findMatch_73 (by decide +kernel) rfl ?_
      refine V_aload_n (Y := m_X10_findMatch) (pc := 75) 3 dX10_findMatch_75 rfl ?_
      refine V_grL (Y := m_X10_findMatch) (pc := 76) (x := 15) 31 kX10 sM_0 (by decide +kernel) rfl rfl tw_1101 dX10_findMatch_76 ?_
      refine V_iconst (Y := m_X10_findMatch) (pc := 79) (x := (5 : Int32)) dX10_findMatch_79 (by decide +kernel) ?_
      refine V_iload_n (Y := m_X10_findMatch) (pc := 80) 6 dX10_findMatch_80 rfl ?_
      refine V_imul (Y := m_X10_findMatch) (pc := 81) dX10_findMatch_81 ?_
      refine V_iload (Y := m_X10_findMatch) (pc := 82) 7 dX10_findMatch_82 rfl ?_
      refine V_iadd (Y := m_X10_findMatch) (pc := 84) dX10_findMatch_84 ?_
      refine V_iload (Y := m_X10_findMatch) (pc := 85) 0 dX10_findMatch_85 rfl ?_
      refine V_aload_n (Y := m_X10_findMatch) (pc := 87) 3 dX10_findMatch_87 rfl ?_
      refine V_iload (Y := m_X10_findMatch) (pc := 88) 2 dX10_findMatch_88 rfl ?_
      obtain ⟨q6, hq6, hf⟩ := g_bind hf
      refine V_cVi (Y := m_X10_findMatch) (pc := 90) (As := [.int q1.1]) yf_X10_spanOf kX10 sM_0 (by decide +kernel) (ok_X10_spanOf q1.1 q5.2 _  hq6) tw_1290 tw_29 tw_1288 rfl rfl (Nat.le_of_ble_eq_true rfl) dX10_findMatch_90 ?_
      refine V_aload_n (Y := m_X10_findMatch) (pc := 93) 3 dX10_findMatch_93 rfl ?_
      refine V_iload (Y := m_X10_findMatch) (pc := 94) 1 dX10_findMatch_94 rfl ?_
      obtain ⟨q7, hq7, hf⟩ := g_bind hf
      refine V_cVi (Y := m_X10_findMatch) (pc := 96) (As := [.int q2.1]) yf_X10_spanOf kX10 sM_0 (by decide +kernel) (ok_X10_spanOf q2.1 q6.2 _  hq7) tw_1290 tw_29 tw_1288 rfl rfl (Nat.le_of_ble_eq_true rfl) dX10_findMatch_96 ?_
      refine V_iadd (Y := m_X10_findMatch) (pc := 99) dX10_findMatch_99 ?_
      refine V_icmp_gt (Y := m_X10_findMatch) (pc := 100) (tgt := 108) dX10_findMatch_100 (by decide +kernel) hf (fun hf => ?_) (fun hf => ?_)
      · refine V_iconst (Y := m_X10_findMatch) (pc := 108) (x := (-1 : Int32)) dX10_findMatch_108 (by decide +kernel) ?_
        exact V_sub [3, 4, 5, 6, 7] rfl (ok_X10_findMatch_b109 k20 (f_X10_findMatch_b31 k20 n) hk20 ih x1 x2 x3 x4 (-1 : Int32) (((5 : Int32) * x3) + x4) q7.2 z  hf)
      · refine V_iload (Y := m_X10_findMatch) (pc := 103) 0 dX10_findMatch_103 rfl ?_
        refine V_goto (Y := m_X10_findMatch) (pc := 105) (tgt := 109) dX10_findMatch_105 (by decide +kernel) ?_
        exact V_sub [3, 4, 5, 6, 7] rfl (ok_X10_findMatch_b109 k20 (f_X10_findMatch_b31 k20 n) hk20 ih x1 x2 x3 x4 q5.1 (((5 : Int32) * x3) + x4) q7.2 z  hf)
def f_X10_findMatch_b20  : Nat → Int32 → Int32 → Int32 → Mem → Option (Int32 × Mem)
  | 0, _, _, _, _ => none
  | n + 1, x1, x2, x3, M =>
    if (M 0 32) ≤ x3 then
      f_X10_findMatch_b122   M
    else
      f_X10_findMatch_b31 (f_X10_findMatch_b20  n) FU x1 x2 x3 (0 : Int32) M
set_option maxRecDepth 20000 in
set_option maxHeartbeats 4000000 in
theorem ok_X10_findMatch_b20 {l : Launch} {g : Gam} {b : Nat}   : ∀ (n : Nat) (x1 : Int32) (x2 : Int32) (x3 : Int32) (M : Mem) (z : Int32 × Mem), f_X10_findMatch_b20  n x1 x2 x3 M = some z → V l g (wM b) m_X10_findMatch 20 [(0, .ref (b + 0)), (1, .int x1), (2, .int x2), (3, .int x3)] [] M none z.2 := by
  intro n
  induction n with
  | zero =>
    intro x1 x2 x3 M z  hf
    cases hf
  | succ n ih =>
    intro x1 x2 x3 M z  hf
    rw [f_X10_findMatch_b20] at hf
    refine V_iload_n (Y := m_X10_findMatch) (pc := 20) 3 dX10_findMatch_20 rfl ?_
    refine V_aload_n (Y := m_X10_findMatch) (pc := 21) 0 dX10_findMatch_21 rfl ?_
    refine V_gi (Y := m_X10_findMatch) (pc := 22) 32 kX10 sM_0 (by decide +kernel) rfl tw_1102 dX10_findMatch_22 ?_
    refine V_icmp_ge (Y := m_X10_findMatch) (pc := 25) (tgt := 122) dX10_findMatch_25 (by decide +kernel) hf (fun hf => ?_) (fun hf => ?_)
    · exact V_sub [0] rfl (ok_X10_findMatch_b122   M z  hf)
    · refine V_iconst (Y := m_X10_findMatch) (pc := 28) (x := (0 : Int32)) dX10_findMatch_28 (by decide +kernel) ?_
      refine V_istore (Y := m_X10_findMatch) (pc := 29) [(4, .int (0 : Int32)), (0, .ref (b + 0)), (1, .int x1), (2, .int x2), (3, .int x3)] dX10_findMatch_29 (by decide +kernel) rfl ?_
      exact V_sub [1, 2, 3, 4, 0] rfl (ok_X10_findMatch_b31 (f_X10_findMatch_b20  n) ih FU x1 x2 x3 (0 : Int32) M z  hf)
def f_X10_findMatch_b0  (x1 : Int32) (x2 : Int32) (M : Mem) : Option (Int32 × Mem) :=
  (f_X10_toldOf x1 M).bind fun q1 =>
  (f_X10_toldOf x2 (mset q1.2 0 32 q1.1)).bind fun q2 =>
  f_X10_findMatch_b20  FU x1 x2 (0 : Int32) (mset q2.2 0 33 q2.1)
set_option maxRecDepth 20000 in
set_option maxHeartbeats 4000000 in
theorem ok_X10_findMatch_b0 {l : Launch} {g : Gam} {b : Nat}   (x1 : Int32) (x2 : Int32) (M : Mem) (z : Int32 × Mem)  (hf : f_X10_findMatch_b0 x1 x2 M = some z) : V l g (wM b) m_X10_findMatch 0 [(0, .ref (b + 0)), (1, .int x1), (2, .int x2)] [] M none z.2 := by
  unfold f_X10_findMatch_b0 at hf
  refine V_aload_n (Y := m_X10_findMatch) (pc := 0) 0 dX10_findMatch_0 rfl ?_
  refine V_aload_n (Y := m_X10_findMatch) (pc := 1) 0 dX10_findMatch_1 rfl ?_
  refine V_iload_n (Y := m_X10_findMatch) (pc := 2) 1 dX10_findMatch_2 rfl ?_
  obtain ⟨q1, hq1, hf⟩ := g_bind hf
  refine V_cVi (Y := m_X10_findMatch) (pc := 3) (As := [.int x1]) yf_X10_toldOf kX10 sM_0 (by decide +kernel) (ok_X10_toldOf x1 M _  hq1) tw_1453 tw_50 tw_1451 rfl rfl (Nat.le_of_ble_eq_true rfl) dX10_findMatch_3 ?_
  refine V_pi (Y := m_X10_findMatch) (pc := 6) 32 kX10 sM_0 (by decide +kernel) rfl rfl rfl tw_1102 dX10_findMatch_6 ?_
  refine V_aload_n (Y := m_X10_findMatch) (pc := 9) 0 dX10_findMatch_9 rfl ?_
  refine V_aload_n (Y := m_X10_findMatch) (pc := 10) 0 dX10_findMatch_10 rfl ?_
  refine V_iload_n (Y := m_X10_findMatch) (pc := 11) 2 dX10_findMatch_11 rfl ?_
  obtain ⟨q2, hq2, hf⟩ := g_bind hf
  refine V_cVi (Y := m_X10_findMatch) (pc := 12) (As := [.int x2]) yf_X10_toldOf kX10 sM_0 (by decide +kernel) (ok_X10_toldOf x2 (mset q1.2 0 32 q1.1) _  hq2) tw_1453 tw_50 tw_1451 rfl rfl (Nat.le_of_ble_eq_true rfl) dX10_findMatch_12 ?_
  refine V_pi (Y := m_X10_findMatch) (pc := 15) 33 kX10 sM_0 (by decide +kernel) rfl rfl rfl tw_1103 dX10_findMatch_15 ?_
  refine V_iconst (Y := m_X10_findMatch) (pc := 18) (x := (0 : Int32)) dX10_findMatch_18 (by decide +kernel) ?_
  refine V_istore_n (Y := m_X10_findMatch) (pc := 19) [(3, .int (0 : Int32)), (0, .ref (b + 0)), (1, .int x1), (2, .int x2)] dX10_findMatch_19 (by decide +kernel) rfl ?_
  exact V_sub [1, 2, 3, 0] rfl (ok_X10_findMatch_b20  FU x1 x2 (0 : Int32) (mset q2.2 0 33 q2.1) z  hf)
def f_X10_findMatch (x1 : Int32) (x2 : Int32) (M : Mem) : Option (Int32 × Mem) := f_X10_findMatch_b0 x1 x2 M
set_option maxRecDepth 20000 in
set_option maxHeartbeats 4000000 in
theorem ok_X10_findMatch {l : Launch} {g : Gam} {b : Nat} : ∀ (x1 : Int32) (x2 : Int32) (M : Mem) (z : Int32 × Mem), f_X10_findMatch x1 x2 M = some z → Cn l g (wM b) m_X10_findMatch [.ref (b + 0), .int x1, .int x2] M none z.2 := fun x1 x2 M z  hf => Cn_of (by decide +kernel) (Nat.le_of_ble_eq_true rfl) (V_sub [0, 1, 2] rfl (ok_X10_findMatch_b0 x1 x2 M z  hf))

abbrev m_X10_areTwo : Mth := (yX10_areTwo, cX10_areTwo, 2, some .boolean, 3)
theorem yf_X10_areTwo : YF m_X10_areTwo 2 := ⟨tw_1465, tw_75, by decide +kernel, by decide +kernel⟩
def f_X10_areTwo_b0  (x0 : Int32) (x1 : Int32) (M : Mem) : Option (Int32 × Mem) :=
  (f_X10_isVoyage x0 M).bind fun q1 =>
  if q1.1 = 0 then
    some ((0 : Int32), q1.2)
  else
    (f_X10_isVoyage x1 q1.2).bind fun q2 =>
    if q2.1 = 0 then
      some ((0 : Int32), q2.2)
    else
      if x0 = x1 then
        some ((0 : Int32), q2.2)
      else
        some ((1 : Int32), q2.2)
set_option maxRecDepth 20000 in
set_option maxHeartbeats 4000000 in
theorem ok_X10_areTwo_b0 {l : Launch} {g : Gam} {b : Nat}   (x0 : Int32) (x1 : Int32) (M : Mem) (z : Int32 × Mem)  (hf : f_X10_areTwo_b0 x0 x1 M = some z) : V l g (wM b) m_X10_areTwo 0 [(0, .int x0), (1, .int x1)] [] M (some (.int z.1)) z.2 := by
  unfold f_X10_areTwo_b0 at hf
  refine V_iload_n (Y := m_X10_areTwo) (pc := 0) 0 dX10_areTwo_0 rfl ?_
  obtain ⟨q1, hq1, hf⟩ := g_bind hf
  refine V_cSi (Y := m_X10_areTwo) (pc := 1) (As := [.int x0]) yf_X10_isVoyage (by decide +kernel) (ok_X10_isVoyage x0 M _  hq1) tw_1411 tw_1410 rfl rfl (Nat.le_of_ble_eq_true rfl) dX10_areTwo_1 ?_
  refine V_if_eq (Y := m_X10_areTwo) (pc := 4) (tgt := 23) dX10_areTwo_4 (by decide +kernel) hf (fun hf => ?_) (fun hf => ?_)
  · refine V_iconst (Y := m_X10_areTwo) (pc := 23) (x := (0 : Int32)) dX10_areTwo_23 (by decide +kernel) ?_
    obtain rfl := Option.some.inj hf
    exact V_zret (Y := m_X10_areTwo) z01_0 rfl dX10_areTwo_24
  · refine V_iload_n (Y := m_X10_areTwo) (pc := 7) 1 dX10_areTwo_7 rfl ?_
    obtain ⟨q2, hq2, hf⟩ := g_bind hf
    refine V_cSi (Y := m_X10_areTwo) (pc := 8) (As := [.int x1]) yf_X10_isVoyage (by decide +kernel) (ok_X10_isVoyage x1 q1.2 _  hq2) tw_1411 tw_1410 rfl rfl (Nat.le_of_ble_eq_true rfl) dX10_areTwo_8 ?_
    refine V_if_eq (Y := m_X10_areTwo) (pc := 11) (tgt := 23) dX10_areTwo_11 (by decide +kernel) hf (fun hf => ?_) (fun hf => ?_)
    · refine V_iconst (Y := m_X10_areTwo) (pc := 23) (x := (0 : Int32)) dX10_areTwo_23 (by decide +kernel) ?_
      obtain rfl := Option.some.inj hf
      exact V_zret (Y := m_X10_areTwo) z01_0 rfl dX10_areTwo_24
    · refine V_iload_n (Y := m_X10_areTwo) (pc := 14) 0 dX10_areTwo_14 rfl ?_
      refine V_iload_n (Y := m_X10_areTwo) (pc := 15) 1 dX10_areTwo_15 rfl ?_
      refine V_icmp_eq (Y := m_X10_areTwo) (pc := 16) (tgt := 23) dX10_areTwo_16 (by decide +kernel) hf (fun hf => ?_) (fun hf => ?_)
      · refine V_iconst (Y := m_X10_areTwo) (pc := 23) (x := (0 : Int32)) dX10_areTwo_23 (by decide +kernel) ?_
        obtain rfl := Option.some.inj hf
        exact V_zret (Y := m_X10_areTwo) z01_0 rfl dX10_areTwo_24
      · refine V_iconst (Y := m_X10_areTwo) (pc := 19) (x := (1 : Int32)) dX10_areTwo_19 (by decide +kernel) ?_
        refine V_goto (Y := m_X10_areTwo) (pc := 20) (tgt := 24) dX10_areTwo_20 (by decide +kernel) ?_
        obtain rfl := Option.some.inj hf
        exact V_zret (Y := m_X10_areTwo) z01_1 rfl dX10_areTwo_24
def f_X10_areTwo (x0 : Int32) (x1 : Int32) (M : Mem) : Option (Int32 × Mem) := f_X10_areTwo_b0 x0 x1 M
set_option maxRecDepth 20000 in
set_option maxHeartbeats 4000000 in
theorem ok_X10_areTwo {l : Launch} {g : Gam} {b : Nat} : ∀ (x0 : Int32) (x1 : Int32) (M : Mem) (z : Int32 × Mem), f_X10_areTwo x0 x1 M = some z → Cn l g (wM b) m_X10_areTwo [.int x0, .int x1] M (some (.int z.1)) z.2 := fun x0 x1 M z  hf => Cn_of (by decide +kernel) (Nat.le_of_ble_eq_true rfl) (V_sub [0, 1] rfl (ok_X10_areTwo_b0 x0 x1 M z  hf))

abbrev m_X10_match : Mth := (yX10_match, cX10_match, 4, some .int, 123)
theorem yf_X10_match : YF m_X10_match 3 := ⟨tw_1462, tw_75, by decide +kernel, by decide +kernel⟩
def f_X10_match_b0  (x1 : Int32) (x2 : Int32) (x3 : Int32) (M : Mem) : Option (Int32 × Mem) :=
  (f_X10_areTwo x1 x2 M).bind fun q1 =>
  if q1.1 = 0 then
    some ((-1000000001 : Int32), q1.2)
  else
    (f_X10_toldOf x1 q1.2).bind fun q2 =>
    (f_X10_isIn x3.toInt64 (-2 : Int64) (q2.1 - (1 : Int32)).toInt64 q2.2).bind fun q3 =>
    if q3.1 = 0 then
      some ((-1000000001 : Int32), q3.2)
    else
      (f_X10_findMatch x1 x2 q3.2).bind fun q4 =>
      if 0 ≤ x3 then
        if ixb x3 5 = true then
        if 0 ≤ (q4.2 17 (ix x3)) then
          if ixb x3 5 = true then
          (f_X10_toldMark x2 (q4.2 17 (ix x3)) q4.2).bind fun q7 =>
          some (q7.1, q7.2)
          else none
        else
          some ((-1000000005 : Int32), q4.2)
        else none
      else
        if x3 = (-2 : Int32) then
          some ((q4.2 0 36), q4.2)
        else
          some ((q4.2 0 37), q4.2)
set_option maxRecDepth 20000 in
set_option maxHeartbeats 4000000 in
theorem ok_X10_match_b0 {l : Launch} {g : Gam} {b : Nat}   (x1 : Int32) (x2 : Int32) (x3 : Int32) (M : Mem) (z : Int32 × Mem)  (hf : f_X10_match_b0 x1 x2 x3 M = some z) : V l g (wM b) m_X10_match 0 [(0, .ref (b + 0)), (1, .int x1), (2, .int x2), (3, .int x3)] [] M (some (.int z.1)) z.2 := by
  unfold f_X10_match_b0 at hf
  refine V_iload_n (Y := m_X10_match) (pc := 0) 1 dX10_match_0 rfl ?_
  refine V_iload_n (Y := m_X10_match) (pc := 1) 2 dX10_match_1 rfl ?_
  obtain ⟨q1, hq1, hf⟩ := g_bind hf
  refine V_cSi (Y := m_X10_match) (pc := 2) (As := [.int x1, .int x2]) yf_X10_areTwo (by decide +kernel) (ok_X10_areTwo x1 x2 M _  hq1) tw_1464 tw_1463 rfl rfl (Nat.le_of_ble_eq_true rfl) dX10_match_2 ?_
  refine V_if_eq (Y := m_X10_match) (pc := 5) (tgt := 27) dX10_match_5 (by decide +kernel) hf (fun hf => ?_) (fun hf => ?_)
  · refine V_ldc (Y := m_X10_match) (pc := 27) (x := (-1000000001 : Int32)) dX10_match_27 tw_1224 ?_
    obtain rfl := Option.some.inj hf
    exact V_iret (Y := m_X10_match) rfl dX10_match_29
  · refine V_iload_n (Y := m_X10_match) (pc := 8) 3 dX10_match_8 rfl ?_
    refine V_i2l (Y := m_X10_match) (pc := 9) dX10_match_9 ?_
    refine V_ldc2 (Y := m_X10_match) (pc := 10) (x := (-2 : Int64)) dX10_match_10 tw_1466 ?_
    refine V_aload_n (Y := m_X10_match) (pc := 13) 0 dX10_match_13 rfl ?_
    refine V_iload_n (Y := m_X10_match) (pc := 14) 1 dX10_match_14 rfl ?_
    obtain ⟨q2, hq2, hf⟩ := g_bind hf
    refine V_cVi (Y := m_X10_match) (pc := 15) (As := [.int x1]) yf_X10_toldOf kX10 sM_0 (by decide +kernel) (ok_X10_toldOf x1 q1.2 _  hq2) tw_1453 tw_50 tw_1451 rfl rfl (Nat.le_of_ble_eq_true rfl) dX10_match_15 ?_
    refine V_iconst (Y := m_X10_match) (pc := 18) (x := (1 : Int32)) dX10_match_18 (by decide +kernel) ?_
    refine V_isub (Y := m_X10_match) (pc := 19) dX10_match_19 ?_
    refine V_i2l (Y := m_X10_match) (pc := 20) dX10_match_20 ?_
    obtain ⟨q3, hq3, hf⟩ := g_bind hf
    refine V_cSi (Y := m_X10_match) (pc := 21) (As := [.long x3.toInt64, .long (-2 : Int64), .long (q2.1 - (1 : Int32)).toInt64]) yf_X10_isIn (by decide +kernel) (ok_X10_isIn x3.toInt64 (-2 : Int64) (q2.1 - (1 : Int32)).toInt64 q2.2 _  hq3) tw_1218 tw_1217 rfl rfl (Nat.le_of_ble_eq_true rfl) dX10_match_21 ?_
    refine V_if_ne (Y := m_X10_match) (pc := 24) (tgt := 30) dX10_match_24 (by decide +kernel) hf (fun hf => ?_) (fun hf => ?_)
    · refine V_aload_n (Y := m_X10_match) (pc := 30) 0 dX10_match_30 rfl ?_
      refine V_iload_n (Y := m_X10_match) (pc := 31) 1 dX10_match_31 rfl ?_
      refine V_iload_n (Y := m_X10_match) (pc := 32) 2 dX10_match_32 rfl ?_
      obtain ⟨q4, hq4, hf⟩ := g_bind hf
      refine V_cVv (Y := m_X10_match) (pc := 33) (As := [.int x1, .int x2]) yf_X10_findMatch kX10 sM_0 (by decide +kernel) (ok_X10_findMatch x1 x2 q3.2 _  hq4) tw_1469 tw_51 tw_1467 rfl rfl (Nat.le_of_ble_eq_true rfl) dX10_match_33 ?_
      refine V_iload_n (Y := m_X10_match) (pc := 36) 3 dX10_match_36 rfl ?_
      refine V_if_ge (Y := m_X10_match) (pc := 37) (tgt := 58) dX10_match_37 (by decide +kernel) hf (fun hf => ?_) (fun hf => ?_)
      · refine V_aload_n (Y := m_X10_match) (pc := 58) 0 dX10_match_58 rfl ?_
        refine V_grL (Y := m_X10_match) (pc := 59) (x := 17) 35 kX10 sM_0 (by decide +kernel) rfl rfl tw_1105 dX10_match_59 ?_
        refine V_iload_n (Y := m_X10_match) (pc := 62) 3 dX10_match_62 rfl ?_
        obtain ⟨hi5, hf⟩ := g_if hf
        refine V_iald (Y := m_X10_match) (pc := 63) sM_17 hi5 dX10_match_63 ?_
        refine V_if_ge (Y := m_X10_match) (pc := 64) (tgt := 72) dX10_match_64 (by decide +kernel) hf (fun hf => ?_) (fun hf => ?_)
        · refine V_aload_n (Y := m_X10_match) (pc := 72) 0 dX10_match_72 rfl ?_
          refine V_iload_n (Y := m_X10_match) (pc := 73) 2 dX10_match_73 rfl ?_
          refine V_aload_n (Y := m_X10_match) (pc := 74) 0 dX10_match_74 rfl ?_
          refine V_grL (Y := m_X10_match) (pc := 75) (x := 17) 35 kX10 sM_0 (by decide +kernel) rfl rfl tw_1105 dX10_match_75 ?_
          refine V_iload_n (Y := m_X10_match) (pc := 78) 3 dX10_match_78 rfl ?_
          obtain ⟨hi6, hf⟩ := g_if hf
          refine V_iald (Y := m_X10_match) (pc := 79) sM_17 hi6 dX10_match_79 ?_
          obtain ⟨q7, hq7, hf⟩ := g_bind hf
          refine V_cVi (Y := m_X10_match) (pc := 80) (As := [.int x2, .int (q4.2 17 (ix x3))]) yf_X10_toldMark kX10 sM_0 (by decide +kernel) (ok_X10_toldMark x2 (q4.2 17 (ix x3)) q4.2 _  hq7) tw_1473 tw_52 tw_1471 rfl rfl (Nat.le_of_ble_eq_true rfl) dX10_match_80 ?_
          obtain rfl := Option.some.inj hf
          exact V_iret (Y := m_X10_match) rfl dX10_match_83
        · refine V_ldc (Y := m_X10_match) (pc := 67) (x := (-1000000005 : Int32)) dX10_match_67 tw_1249 ?_
          refine V_goto (Y := m_X10_match) (pc := 69) (tgt := 83) dX10_match_69 (by decide +kernel) ?_
          obtain rfl := Option.some.inj hf
          exact V_iret (Y := m_X10_match) rfl dX10_match_83
      · refine V_iload_n (Y := m_X10_match) (pc := 40) 3 dX10_match_40 rfl ?_
        refine V_bipush (Y := m_X10_match) (pc := 41) (x := (-2 : Int32)) dX10_match_41 (by decide +kernel) ?_
        refine V_icmp_ne (Y := m_X10_match) (pc := 43) (tgt := 53) dX10_match_43 (by decide +kernel) hf (fun hf => ?_) (fun hf => ?_)
        · refine V_aload_n (Y := m_X10_match) (pc := 53) 0 dX10_match_53 rfl ?_
          refine V_gi (Y := m_X10_match) (pc := 54) 37 kX10 sM_0 (by decide +kernel) rfl tw_1107 dX10_match_54 ?_
          obtain rfl := Option.some.inj hf
          exact V_iret (Y := m_X10_match) rfl dX10_match_57
        · refine V_aload_n (Y := m_X10_match) (pc := 46) 0 dX10_match_46 rfl ?_
          refine V_gi (Y := m_X10_match) (pc := 47) 36 kX10 sM_0 (by decide +kernel) rfl tw_1106 dX10_match_47 ?_
          refine V_goto (Y := m_X10_match) (pc := 50) (tgt := 57) dX10_match_50 (by decide +kernel) ?_
          obtain rfl := Option.some.inj hf
          exact V_iret (Y := m_X10_match) rfl dX10_match_57
    · refine V_ldc (Y := m_X10_match) (pc := 27) (x := (-1000000001 : Int32)) dX10_match_27 tw_1224 ?_
      obtain rfl := Option.some.inj hf
      exact V_iret (Y := m_X10_match) rfl dX10_match_29
def f_X10_match (x1 : Int32) (x2 : Int32) (x3 : Int32) (M : Mem) : Option (Int32 × Mem) := f_X10_match_b0 x1 x2 x3 M
set_option maxRecDepth 20000 in
set_option maxHeartbeats 4000000 in
theorem ok_X10_match {l : Launch} {g : Gam} {b : Nat} : ∀ (x1 : Int32) (x2 : Int32) (x3 : Int32) (M : Mem) (z : Int32 × Mem), f_X10_match x1 x2 x3 M = some z → Cn l g (wM b) m_X10_match [.ref (b + 0), .int x1, .int x2, .int x3] M (some (.int z.1)) z.2 := fun x1 x2 x3 M z  hf => Cn_of (by decide +kernel) (Nat.le_of_ble_eq_true rfl) (V_sub [0, 1, 2, 3] rfl (ok_X10_match_b0 x1 x2 x3 M z  hf))

abbrev m_X10_join : Mth := (yX10_join, cX10_join, 6, some .int, 123)
theorem yf_X10_join : YF m_X10_join 2 := ⟨tw_1485, tw_75, by decide +kernel, by decide +kernel⟩
def f_X10_join_b97 (k22 : Int32 → Int32 → Int32 → Int32 → Mem → Option (Int32 × Mem)) (x1 : Int32) (x2 : Int32) (x3 : Int32) (x4 : Int32) (M : Mem) : Option (Int32 × Mem) :=
  k22 x1 x2 x3 (x4 + (1 : Int32)) M
set_option maxRecDepth 20000 in
set_option maxHeartbeats 4000000 in
theorem ok_X10_join_b97 {l : Launch} {g : Gam} {b : Nat} (k22 : Int32 → Int32 → Int32 → Int32 → Mem → Option (Int32 × Mem)) (hk22 : ∀ (x1 : Int32) (x2 : Int32) (x3 : Int32) (x4 : Int32) (M : Mem) (z : Int32 × Mem), k22 x1 x2 x3 x4 M = some z → V l g (wM b) m_X10_join 22 [(0, .ref (b + 0)), (1, .int x1), (2, .int x2), (3, .int x3), (4, .int x4)] [] M (some (.int z.1)) z.2) (x1 : Int32) (x2 : Int32) (x3 : Int32) (x4 : Int32) (M : Mem) (z : Int32 × Mem)  (hf : f_X10_join_b97 k22 x1 x2 x3 x4 M = some z) : V l g (wM b) m_X10_join 97 [(0, .ref (b + 0)), (1, .int x1), (2, .int x2), (3, .int x3), (4, .int x4)] [] M (some (.int z.1)) z.2 := by
  unfold f_X10_join_b97 at hf
  refine V_iinc (Y := m_X10_join) (pc := 97) (y := (x4 + (1 : Int32))) 4 [(4, .int (x4 + (1 : Int32))), (0, .ref (b + 0)), (1, .int x1), (2, .int x2), (3, .int x3)] dX10_join_97 rfl rfl (by decide +kernel) rfl ?_
  refine V_goto (Y := m_X10_join) (pc := 100) (tgt := 22) dX10_join_100 (by decide +kernel) ?_
  exact V_sub [1, 2, 3, 4, 0] rfl (hk22 x1 x2 x3 (x4 + (1 : Int32)) M z  hf)
def f_X10_join_b95 (k22 : Int32 → Int32 → Int32 → Int32 → Mem → Option (Int32 × Mem)) (x1 : Int32) (x2 : Int32) (x4 : Int32) (s0 : Int32) (s1 : Int32) (M : Mem) : Option (Int32 × Mem) :=
  f_X10_join_b97 k22 x1 x2 (s1 + s0) x4 M
set_option maxRecDepth 20000 in
set_option maxHeartbeats 4000000 in
theorem ok_X10_join_b95 {l : Launch} {g : Gam} {b : Nat} (k22 : Int32 → Int32 → Int32 → Int32 → Mem → Option (Int32 × Mem)) (hk22 : ∀ (x1 : Int32) (x2 : Int32) (x3 : Int32) (x4 : Int32) (M : Mem) (z : Int32 × Mem), k22 x1 x2 x3 x4 M = some z → V l g (wM b) m_X10_join 22 [(0, .ref (b + 0)), (1, .int x1), (2, .int x2), (3, .int x3), (4, .int x4)] [] M (some (.int z.1)) z.2) (x1 : Int32) (x2 : Int32) (x4 : Int32) (s0 : Int32) (s1 : Int32) (M : Mem) (z : Int32 × Mem)  (hf : f_X10_join_b95 k22 x1 x2 x4 s0 s1 M = some z) : V l g (wM b) m_X10_join 95 [(0, .ref (b + 0)), (1, .int x1), (2, .int x2), (4, .int x4)] [.int s0, .int s1] M (some (.int z.1)) z.2 := by
  unfold f_X10_join_b95 at hf
  refine V_iadd (Y := m_X10_join) (pc := 95) dX10_join_95 ?_
  refine V_istore_n (Y := m_X10_join) (pc := 96) [(3, .int (s1 + s0)), (0, .ref (b + 0)), (1, .int x1), (2, .int x2), (4, .int x4)] dX10_join_96 (by decide +kernel) rfl ?_
  exact V_sub [1, 2, 3, 0, 4] rfl (ok_X10_join_b97 k22 hk22 x1 x2 (s1 + s0) x4 M z  hf)
def f_X10_join_b22  : Nat → Int32 → Int32 → Int32 → Int32 → Mem → Option (Int32 × Mem)
  | 0, _, _, _, _, _ => none
  | n + 1, x1, x2, x3, x4, M =>
    if (M 0 32) ≤ x4 then
      some (x3, M)
    else
      (f_X10_toldMark x1 x4 M).bind fun q1 =>
      (f_X10_field q1.1 (5 : Int32) q1.2).bind fun q2 =>
      if ixb x4 5 = true then
      if (q2.2 17 (ix x4)) < 0 then
        f_X10_join_b97 (f_X10_join_b22  n) x1 x2 x3 x4 q2.2
      else
        if q2.1 < 0 then
          f_X10_join_b97 (f_X10_join_b22  n) x1 x2 x3 x4 q2.2
        else
          if ixb x4 5 = true then
          (f_X10_toldMark x2 (q2.2 17 (ix x4)) q2.2).bind fun q5 =>
          (f_X10_markAt q5.1 q5.2).bind fun q6 =>
          (f_X10_becomes (q6.1 + (5 : Int32)) q2.1 q6.2).bind fun q7 =>
          if q7.1 = q2.1 then
            f_X10_join_b95 (f_X10_join_b22  n) x1 x2 x4 (0 : Int32) x3 q7.2
          else
            f_X10_join_b95 (f_X10_join_b22  n) x1 x2 x4 (1 : Int32) x3 q7.2
          else none
      else none
set_option maxRecDepth 20000 in
set_option maxHeartbeats 4000000 in
theorem ok_X10_join_b22 {l : Launch} {g : Gam} {b : Nat}   : ∀ (n : Nat) (x1 : Int32) (x2 : Int32) (x3 : Int32) (x4 : Int32) (M : Mem) (z : Int32 × Mem), f_X10_join_b22  n x1 x2 x3 x4 M = some z → V l g (wM b) m_X10_join 22 [(0, .ref (b + 0)), (1, .int x1), (2, .int x2), (3, .int x3), (4, .int x4)] [] M (some (.int z.1)) z.2 := by
  intro n
  induction n with
  | zero =>
    intro x1 x2 x3 x4 M z  hf
    cases hf
  | succ n ih =>
    intro x1 x2 x3 x4 M z  hf
    rw [f_X10_join_b22] at hf
    refine V_iload (Y := m_X10_join) (pc := 22) 4 dX10_join_22 rfl ?_
    refine V_aload_n (Y := m_X10_join) (pc := 24) 0 dX10_join_24 rfl ?_
    refine V_gi (Y := m_X10_join) (pc := 25) 32 kX10 sM_0 (by decide +kernel) rfl tw_1102 dX10_join_25 ?_
    refine V_icmp_ge (Y := m_X10_join) (pc := 28) (tgt := 103) dX10_join_28 (by decide +kernel) hf (fun hf => ?_) (fun hf => ?_)
    · refine V_iload_n (Y := m_X10_join) (pc := 103) 3 dX10_join_103 rfl ?_
      obtain rfl := Option.some.inj hf
      exact V_iret (Y := m_X10_join) rfl dX10_join_104
    · refine V_aload_n (Y := m_X10_join) (pc := 31) 0 dX10_join_31 rfl ?_
      refine V_aload_n (Y := m_X10_join) (pc := 32) 0 dX10_join_32 rfl ?_
      refine V_iload_n (Y := m_X10_join) (pc := 33) 1 dX10_join_33 rfl ?_
      refine V_iload (Y := m_X10_join) (pc := 34) 4 dX10_join_34 rfl ?_
      obtain ⟨q1, hq1, hf⟩ := g_bind hf
      refine V_cVi (Y := m_X10_join) (pc := 36) (As := [.int x1, .int x4]) yf_X10_toldMark kX10 sM_0 (by decide +kernel) (ok_X10_toldMark x1 x4 M _  hq1) tw_1473 tw_52 tw_1471 rfl rfl (Nat.le_of_ble_eq_true rfl) dX10_join_36 ?_
      refine V_iconst (Y := m_X10_join) (pc := 39) (x := (5 : Int32)) dX10_join_39 (by decide +kernel) ?_
      obtain ⟨q2, hq2, hf⟩ := g_bind hf
      refine V_cVi (Y := m_X10_join) (pc := 40) (As := [.int q1.1, .int (5 : Int32)]) yf_X10_field kX10 sM_0 (by decide +kernel) (ok_X10_field q1.1 (5 : Int32) q1.2 _  hq2) tw_1244 tw_20 tw_1242 rfl rfl (Nat.le_of_ble_eq_true rfl) dX10_join_40 ?_
      refine V_istore (Y := m_X10_join) (pc := 43) [(5, .int q2.1), (0, .ref (b + 0)), (1, .int x1), (2, .int x2), (3, .int x3), (4, .int x4)] dX10_join_43 (by decide +kernel) rfl ?_
      refine V_aload_n (Y := m_X10_join) (pc := 45) 1 dX10_join_45 rfl ?_
      refine V_grL (Y := m_X10_join) (pc := 46) (x := 17) 35 kX10 sM_0 (by decide +kernel) rfl rfl tw_1105 dX10_join_46 ?_
      refine V_iload (Y := m_X10_join) (pc := 49) 5 dX10_join_49 rfl ?_
      obtain ⟨hi3, hf⟩ := g_if hf
      refine V_iald (Y := m_X10_join) (pc := 51) sM_17 hi3 dX10_join_51 ?_
      refine V_if_lt (Y := m_X10_join) (pc := 52) (tgt := 97) dX10_join_52 (by decide +kernel) hf (fun hf => ?_) (fun hf => ?_)
      · exact V_sub [1, 2, 3, 4, 5] rfl (ok_X10_join_b97 (f_X10_join_b22  n) ih x1 x2 x3 x4 q2.2 z  hf)
      · refine V_iload (Y := m_X10_join) (pc := 55) 0 dX10_join_55 rfl ?_
        refine V_if_lt (Y := m_X10_join) (pc := 57) (tgt := 97) dX10_join_57 (by decide +kernel) hf (fun hf => ?_) (fun hf => ?_)
        · exact V_sub [1, 2, 3, 4, 5] rfl (ok_X10_join_b97 (f_X10_join_b22  n) ih x1 x2 x3 x4 q2.2 z  hf)
        · refine V_iload_n (Y := m_X10_join) (pc := 60) 4 dX10_join_60 rfl ?_
          refine V_aload_n (Y := m_X10_join) (pc := 61) 1 dX10_join_61 rfl ?_
          refine V_aload_n (Y := m_X10_join) (pc := 62) 1 dX10_join_62 rfl ?_
          refine V_aload_n (Y := m_X10_join) (pc := 63) 1 dX10_join_63 rfl ?_
          refine V_iload_n (Y := m_X10_join) (pc := 64) 3 dX10_join_64 rfl ?_
          refine V_aload_n (Y := m_X10_join) (pc := 65) 1 dX10_join_65 rfl ?_
          refine V_grL (Y := m_X10_join) (pc := 66) (x := 17) 35 kX10 sM_0 (by decide +kernel) rfl rfl tw_1105 dX10_join_66 ?_
          refine V_iload (Y := m_X10_join) (pc := 69) 5 dX10_join_69 rfl ?_
          obtain ⟨hi4, hf⟩ := g_if hf
          refine V_iald (Y := m_X10_join) (pc := 71) sM_17 hi4 dX10_join_71 ?_
          obtain ⟨q5, hq5, hf⟩ := g_bind hf
          refine V_cVi (Y := m_X10_join) (pc := 72) (As := [.int x2, .int (q2.2 17 (ix x4))]) yf_X10_toldMark kX10 sM_0 (by decide +kernel) (ok_X10_toldMark x2 (q2.2 17 (ix x4)) q2.2 _  hq5) tw_1473 tw_52 tw_1471 rfl rfl (Nat.le_of_ble_eq_true rfl) dX10_join_72 ?_
          obtain ⟨q6, hq6, hf⟩ := g_bind hf
          refine V_cVi (Y := m_X10_join) (pc := 75) (As := [.int q5.1]) yf_X10_markAt kX10 sM_0 (by decide +kernel) (ok_X10_markAt q5.1 q5.2 _  hq6) tw_1232 tw_18 tw_1230 rfl rfl (Nat.le_of_ble_eq_true rfl) dX10_join_75 ?_
          refine V_iconst (Y := m_X10_join) (pc := 78) (x := (5 : Int32)) dX10_join_78 (by decide +kernel) ?_
          refine V_iadd (Y := m_X10_join) (pc := 79) dX10_join_79 ?_
          refine V_iload (Y := m_X10_join) (pc := 80) 0 dX10_join_80 rfl ?_
          obtain ⟨q7, hq7, hf⟩ := g_bind hf
          refine V_cVi (Y := m_X10_join) (pc := 82) (As := [.int (q6.1 + (5 : Int32)), .int q2.1]) yf_X10_becomes kX10 sM_0 (by decide +kernel) (ok_X10_becomes (q6.1 + (5 : Int32)) q2.1 q6.2 _  hq7) tw_1311 tw_30 tw_1309 rfl rfl (Nat.le_of_ble_eq_true rfl) dX10_join_82 ?_
          refine V_iload (Y := m_X10_join) (pc := 85) 0 dX10_join_85 rfl ?_
          refine V_icmp_ne (Y := m_X10_join) (pc := 87) (tgt := 94) dX10_join_87 (by decide +kernel) hf (fun hf => ?_) (fun hf => ?_)
          · refine V_iconst (Y := m_X10_join) (pc := 94) (x := (1 : Int32)) dX10_join_94 (by decide +kernel) ?_
            exact V_sub [1, 2, 3, 5] rfl (ok_X10_join_b95 (f_X10_join_b22  n) ih x1 x2 x4 (1 : Int32) x3 q7.2 z  hf)
          · refine V_iconst (Y := m_X10_join) (pc := 90) (x := (0 : Int32)) dX10_join_90 (by decide +kernel) ?_
            refine V_goto (Y := m_X10_join) (pc := 91) (tgt := 95) dX10_join_91 (by decide +kernel) ?_
            exact V_sub [1, 2, 3, 5] rfl (ok_X10_join_b95 (f_X10_join_b22  n) ih x1 x2 x4 (0 : Int32) x3 q7.2 z  hf)
def f_X10_join_b0  (x1 : Int32) (x2 : Int32) (M : Mem) : Option (Int32 × Mem) :=
  (f_X10_areTwo x1 x2 M).bind fun q1 =>
  if q1.1 = 0 then
    some ((-1000000001 : Int32), q1.2)
  else
    (f_X10_findMatch x1 x2 q1.2).bind fun q2 =>
    f_X10_join_b22  FU x1 x2 (0 : Int32) (0 : Int32) q2.2
set_option maxRecDepth 20000 in
set_option maxHeartbeats 4000000 in
theorem ok_X10_join_b0 {l : Launch} {g : Gam} {b : Nat}   (x1 : Int32) (x2 : Int32) (M : Mem) (z : Int32 × Mem)  (hf : f_X10_join_b0 x1 x2 M = some z) : V l g (wM b) m_X10_join 0 [(0, .ref (b + 0)), (1, .int x1), (2, .int x2)] [] M (some (.int z.1)) z.2 := by
  unfold f_X10_join_b0 at hf
  refine V_iload_n (Y := m_X10_join) (pc := 0) 1 dX10_join_0 rfl ?_
  refine V_iload_n (Y := m_X10_join) (pc := 1) 2 dX10_join_1 rfl ?_
  obtain ⟨q1, hq1, hf⟩ := g_bind hf
  refine V_cSi (Y := m_X10_join) (pc := 2) (As := [.int x1, .int x2]) yf_X10_areTwo (by decide +kernel) (ok_X10_areTwo x1 x2 M _  hq1) tw_1464 tw_1463 rfl rfl (Nat.le_of_ble_eq_true rfl) dX10_join_2 ?_
  refine V_if_ne (Y := m_X10_join) (pc := 5) (tgt := 11) dX10_join_5 (by decide +kernel) hf (fun hf => ?_) (fun hf => ?_)
  · refine V_aload_n (Y := m_X10_join) (pc := 11) 0 dX10_join_11 rfl ?_
    refine V_iload_n (Y := m_X10_join) (pc := 12) 1 dX10_join_12 rfl ?_
    refine V_iload_n (Y := m_X10_join) (pc := 13) 2 dX10_join_13 rfl ?_
    obtain ⟨q2, hq2, hf⟩ := g_bind hf
    refine V_cVv (Y := m_X10_join) (pc := 14) (As := [.int x1, .int x2]) yf_X10_findMatch kX10 sM_0 (by decide +kernel) (ok_X10_findMatch x1 x2 q1.2 _  hq2) tw_1469 tw_51 tw_1467 rfl rfl (Nat.le_of_ble_eq_true rfl) dX10_join_14 ?_
    refine V_iconst (Y := m_X10_join) (pc := 17) (x := (0 : Int32)) dX10_join_17 (by decide +kernel) ?_
    refine V_istore_n (Y := m_X10_join) (pc := 18) [(3, .int (0 : Int32)), (0, .ref (b + 0)), (1, .int x1), (2, .int x2)] dX10_join_18 (by decide +kernel) rfl ?_
    refine V_iconst (Y := m_X10_join) (pc := 19) (x := (0 : Int32)) dX10_join_19 (by decide +kernel) ?_
    refine V_istore (Y := m_X10_join) (pc := 20) [(4, .int (0 : Int32)), (3, .int (0 : Int32)), (0, .ref (b + 0)), (1, .int x1), (2, .int x2)] dX10_join_20 (by decide +kernel) rfl ?_
    exact V_sub [2, 3, 4, 1, 0] rfl (ok_X10_join_b22  FU x1 x2 (0 : Int32) (0 : Int32) q2.2 z  hf)
  · refine V_ldc (Y := m_X10_join) (pc := 8) (x := (-1000000001 : Int32)) dX10_join_8 tw_1224 ?_
    obtain rfl := Option.some.inj hf
    exact V_iret (Y := m_X10_join) rfl dX10_join_10
def f_X10_join (x1 : Int32) (x2 : Int32) (M : Mem) : Option (Int32 × Mem) := f_X10_join_b0 x1 x2 M
set_option maxRecDepth 20000 in
set_option maxHeartbeats 4000000 in
theorem ok_X10_join {l : Launch} {g : Gam} {b : Nat} : ∀ (x1 : Int32) (x2 : Int32) (M : Mem) (z : Int32 × Mem), f_X10_join x1 x2 M = some z → Cn l g (wM b) m_X10_join [.ref (b + 0), .int x1, .int x2] M (some (.int z.1)) z.2 := fun x1 x2 M z  hf => Cn_of (by decide +kernel) (Nat.le_of_ble_eq_true rfl) (V_sub [0, 1, 2] rfl (ok_X10_join_b0 x1 x2 M z  hf))

abbrev m_X10_areCapes : Mth := (yX10_areCapes, cX10_areCapes, 2, some .boolean, 3)
theorem yf_X10_areCapes : YF m_X10_areCapes 2 := ⟨tw_1492, tw_75, by decide +kernel, by decide +kernel⟩
def f_X10_areCapes_b0  (x0 : Int32) (x1 : Int32) (M : Mem) : Option (Int32 × Mem) :=
  (f_X10_isCape x0 M).bind fun q1 =>
  if q1.1 = 0 then
    some ((0 : Int32), q1.2)
  else
    (f_X10_isCape x1 q1.2).bind fun q2 =>
    if q2.1 = 0 then
      some ((0 : Int32), q2.2)
    else
      if x0 = x1 then
        some ((0 : Int32), q2.2)
      else
        some ((1 : Int32), q2.2)
set_option maxRecDepth 20000 in
set_option maxHeartbeats 4000000 in
theorem ok_X10_areCapes_b0 {l : Launch} {g : Gam} {b : Nat}   (x0 : Int32) (x1 : Int32) (M : Mem) (z : Int32 × Mem)  (hf : f_X10_areCapes_b0 x0 x1 M = some z) : V l g (wM b) m_X10_areCapes 0 [(0, .int x0), (1, .int x1)] [] M (some (.int z.1)) z.2 := by
  unfold f_X10_areCapes_b0 at hf
  refine V_iload_n (Y := m_X10_areCapes) (pc := 0) 0 dX10_areCapes_0 rfl ?_
  obtain ⟨q1, hq1, hf⟩ := g_bind hf
  refine V_cSi (Y := m_X10_areCapes) (pc := 1) (As := [.int x0]) yf_X10_isCape (by decide +kernel) (ok_X10_isCape x0 M _  hq1) tw_1418 tw_1417 rfl rfl (Nat.le_of_ble_eq_true rfl) dX10_areCapes_1 ?_
  refine V_if_eq (Y := m_X10_areCapes) (pc := 4) (tgt := 23) dX10_areCapes_4 (by decide +kernel) hf (fun hf => ?_) (fun hf => ?_)
  · refine V_iconst (Y := m_X10_areCapes) (pc := 23) (x := (0 : Int32)) dX10_areCapes_23 (by decide +kernel) ?_
    obtain rfl := Option.some.inj hf
    exact V_zret (Y := m_X10_areCapes) z01_0 rfl dX10_areCapes_24
  · refine V_iload_n (Y := m_X10_areCapes) (pc := 7) 1 dX10_areCapes_7 rfl ?_
    obtain ⟨q2, hq2, hf⟩ := g_bind hf
    refine V_cSi (Y := m_X10_areCapes) (pc := 8) (As := [.int x1]) yf_X10_isCape (by decide +kernel) (ok_X10_isCape x1 q1.2 _  hq2) tw_1418 tw_1417 rfl rfl (Nat.le_of_ble_eq_true rfl) dX10_areCapes_8 ?_
    refine V_if_eq (Y := m_X10_areCapes) (pc := 11) (tgt := 23) dX10_areCapes_11 (by decide +kernel) hf (fun hf => ?_) (fun hf => ?_)
    · refine V_iconst (Y := m_X10_areCapes) (pc := 23) (x := (0 : Int32)) dX10_areCapes_23 (by decide +kernel) ?_
      obtain rfl := Option.some.inj hf
      exact V_zret (Y := m_X10_areCapes) z01_0 rfl dX10_areCapes_24
    · refine V_iload_n (Y := m_X10_areCapes) (pc := 14) 0 dX10_areCapes_14 rfl ?_
      refine V_iload_n (Y := m_X10_areCapes) (pc := 15) 1 dX10_areCapes_15 rfl ?_
      refine V_icmp_eq (Y := m_X10_areCapes) (pc := 16) (tgt := 23) dX10_areCapes_16 (by decide +kernel) hf (fun hf => ?_) (fun hf => ?_)
      · refine V_iconst (Y := m_X10_areCapes) (pc := 23) (x := (0 : Int32)) dX10_areCapes_23 (by decide +kernel) ?_
        obtain rfl := Option.some.inj hf
        exact V_zret (Y := m_X10_areCapes) z01_0 rfl dX10_areCapes_24
      · refine V_iconst (Y := m_X10_areCapes) (pc := 19) (x := (1 : Int32)) dX10_areCapes_19 (by decide +kernel) ?_
        refine V_goto (Y := m_X10_areCapes) (pc := 20) (tgt := 24) dX10_areCapes_20 (by decide +kernel) ?_
        obtain rfl := Option.some.inj hf
        exact V_zret (Y := m_X10_areCapes) z01_1 rfl dX10_areCapes_24
def f_X10_areCapes (x0 : Int32) (x1 : Int32) (M : Mem) : Option (Int32 × Mem) := f_X10_areCapes_b0 x0 x1 M
set_option maxRecDepth 20000 in
set_option maxHeartbeats 4000000 in
theorem ok_X10_areCapes {l : Launch} {g : Gam} {b : Nat} : ∀ (x0 : Int32) (x1 : Int32) (M : Mem) (z : Int32 × Mem), f_X10_areCapes x0 x1 M = some z → Cn l g (wM b) m_X10_areCapes [.int x0, .int x1] M (some (.int z.1)) z.2 := fun x0 x1 M z  hf => Cn_of (by decide +kernel) (Nat.le_of_ble_eq_true rfl) (V_sub [0, 1] rfl (ok_X10_areCapes_b0 x0 x1 M z  hf))

abbrev m_X10_passage : Mth := (yX10_passage, cX10_passage, 5, some .int, 4)
theorem yf_X10_passage : YF m_X10_passage 3 := ⟨tw_1489, tw_75, by decide +kernel, by decide +kernel⟩
def f_X10_passage_bc68_1  (x3 : Int32) (x4 : Int32) (M : Mem) : Option (Int32 × Mem) :=
  if ixb (x4 + (2 : Int32)) 3300 = true then
  some (((mset (mset M 1 (ix (x4 + (2 : Int32))) x3) 1 2 (((mset M 1 (ix (x4 + (2 : Int32))) x3) 1 2) + (1 : Int32))) 1 2), (mset (mset M 1 (ix (x4 + (2 : Int32))) x3) 1 2 (((mset M 1 (ix (x4 + (2 : Int32))) x3) 1 2) + (1 : Int32))))
  else none
set_option maxRecDepth 20000 in
set_option maxHeartbeats 4000000 in
theorem ok_X10_passage_bc68_1 {l : Launch} {g : Gam} {b : Nat}   (x3 : Int32) (x4 : Int32) (M : Mem) (z : Int32 × Mem)  (hf : f_X10_passage_bc68_1 x3 x4 M = some z) : V l g (wM b) m_X10_passage 68 [(0, .ref (b + 0)), (3, .int x3), (4, .int x4)] [] M (some (.int z.1)) z.2 := by
  unfold f_X10_passage_bc68_1 at hf
  refine V_aload_n (Y := m_X10_passage) (pc := 68) 0 dX10_passage_68 rfl ?_
  refine V_grL (Y := m_X10_passage) (pc := 69) (x := 1) 0 kX10 sM_0 (by decide +kernel) rfl rfl tw_1070 dX10_passage_69 ?_
  refine V_iload (Y := m_X10_passage) (pc := 72) 2 dX10_passage_72 rfl ?_
  refine V_iconst (Y := m_X10_passage) (pc := 74) (x := (2 : Int32)) dX10_passage_74 (by decide +kernel) ?_
  refine V_iadd (Y := m_X10_passage) (pc := 75) dX10_passage_75 ?_
  refine V_iload_n (Y := m_X10_passage) (pc := 76) 1 dX10_passage_76 rfl ?_
  obtain ⟨hi1, hf⟩ := g_if hf
  refine V_iast (Y := m_X10_passage) (pc := 77) sM_1 hi1 dX10_passage_77 ?_
  refine V_aload_n (Y := m_X10_passage) (pc := 78) 0 dX10_passage_78 rfl ?_
  refine V_grL (Y := m_X10_passage) (pc := 79) (x := 1) 0 kX10 sM_0 (by decide +kernel) rfl rfl tw_1070 dX10_passage_79 ?_
  refine V_iconst (Y := m_X10_passage) (pc := 82) (x := (2 : Int32)) dX10_passage_82 (by decide +kernel) ?_
  refine V_dup2 (Y := m_X10_passage) (pc := 83) dX10_passage_83 rfl rfl ?_
  refine V_ialdL (Y := m_X10_passage) (pc := 84) (j := 2) sM_1 (by decide +kernel) rfl dX10_passage_84 ?_
  refine V_iconst (Y := m_X10_passage) (pc := 85) (x := (1 : Int32)) dX10_passage_85 (by decide +kernel) ?_
  refine V_iadd (Y := m_X10_passage) (pc := 86) dX10_passage_86 ?_
  refine V_iastL (Y := m_X10_passage) (pc := 87) (j := 2) sM_1 (by decide +kernel) rfl dX10_passage_87 ?_
  refine V_aload_n (Y := m_X10_passage) (pc := 88) 0 dX10_passage_88 rfl ?_
  refine V_grL (Y := m_X10_passage) (pc := 89) (x := 1) 0 kX10 sM_0 (by decide +kernel) rfl rfl tw_1070 dX10_passage_89 ?_
  refine V_iconst (Y := m_X10_passage) (pc := 92) (x := (2 : Int32)) dX10_passage_92 (by decide +kernel) ?_
  refine V_ialdL (Y := m_X10_passage) (pc := 93) (j := 2) sM_1 (by decide +kernel) rfl dX10_passage_93 ?_
  obtain rfl := Option.some.inj hf
  exact V_iret (Y := m_X10_passage) rfl dX10_passage_94
def f_X10_passage_b0  (x1 : Int32) (x2 : Int32) (x3 : Int32) (M : Mem) : Option (Int32 × Mem) :=
  (f_X10_areCapes x1 x2 M).bind fun q1 =>
  if q1.1 = 0 then
    some ((-1000000001 : Int32), q1.2)
  else
    (f_X10_isIn x3.toInt64 (0 : Int64) (3 : Int64) q1.2).bind fun q2 =>
    if q2.1 = 0 then
      some ((-1000000001 : Int32), q2.2)
    else
      if (q2.2 1 2) = (20 : Int32) then
        some ((-1000000003 : Int32), q2.2)
      else
        if ixb ((50 : Int32) + ((3 : Int32) * (q2.2 1 2))) 3300 = true then
        if ixb (((50 : Int32) + ((3 : Int32) * (q2.2 1 2))) + (1 : Int32)) 3300 = true then
        f_X10_passage_bc68_1  x3 ((50 : Int32) + ((3 : Int32) * (q2.2 1 2))) (mset (mset q2.2 1 (ix ((50 : Int32) + ((3 : Int32) * (q2.2 1 2)))) x1) 1 (ix (((50 : Int32) + ((3 : Int32) * (q2.2 1 2))) + (1 : Int32))) x2)
        else none
        else none
set_option maxRecDepth 20000 in
set_option maxHeartbeats 4000000 in
theorem ok_X10_passage_b0 {l : Launch} {g : Gam} {b : Nat}   (x1 : Int32) (x2 : Int32) (x3 : Int32) (M : Mem) (z : Int32 × Mem)  (hf : f_X10_passage_b0 x1 x2 x3 M = some z) : V l g (wM b) m_X10_passage 0 [(0, .ref (b + 0)), (1, .int x1), (2, .int x2), (3, .int x3)] [] M (some (.int z.1)) z.2 := by
  unfold f_X10_passage_b0 at hf
  refine V_iload_n (Y := m_X10_passage) (pc := 0) 1 dX10_passage_0 rfl ?_
  refine V_iload_n (Y := m_X10_passage) (pc := 1) 2 dX10_passage_1 rfl ?_
  obtain ⟨q1, hq1, hf⟩ := g_bind hf
  refine V_cSi (Y := m_X10_passage) (pc := 2) (As := [.int x1, .int x2]) yf_X10_areCapes (by decide +kernel) (ok_X10_areCapes x1 x2 M _  hq1) tw_1491 tw_1490 rfl rfl (Nat.le_of_ble_eq_true rfl) dX10_passage_2 ?_
  refine V_if_eq (Y := m_X10_passage) (pc := 5) (tgt := 20) dX10_passage_5 (by decide +kernel) hf (fun hf => ?_) (fun hf => ?_)
  · refine V_ldc (Y := m_X10_passage) (pc := 20) (x := (-1000000001 : Int32)) dX10_passage_20 tw_1224 ?_
    obtain rfl := Option.some.inj hf
    exact V_iret (Y := m_X10_passage) rfl dX10_passage_22
  · refine V_iload_n (Y := m_X10_passage) (pc := 8) 3 dX10_passage_8 rfl ?_
    refine V_i2l (Y := m_X10_passage) (pc := 9) dX10_passage_9 ?_
    refine V_lconst (Y := m_X10_passage) (pc := 10) (x := (0 : Int64)) dX10_passage_10 (by decide +kernel) ?_
    refine V_ldc2 (Y := m_X10_passage) (pc := 11) (x := (3 : Int64)) dX10_passage_11 tw_1493 ?_
    obtain ⟨q2, hq2, hf⟩ := g_bind hf
    refine V_cSi (Y := m_X10_passage) (pc := 14) (As := [.long x3.toInt64, .long (0 : Int64), .long (3 : Int64)]) yf_X10_isIn (by decide +kernel) (ok_X10_isIn x3.toInt64 (0 : Int64) (3 : Int64) q1.2 _  hq2) tw_1218 tw_1217 rfl rfl (Nat.le_of_ble_eq_true rfl) dX10_passage_14 ?_
    refine V_if_ne (Y := m_X10_passage) (pc := 17) (tgt := 23) dX10_passage_17 (by decide +kernel) hf (fun hf => ?_) (fun hf => ?_)
    · refine V_aload_n (Y := m_X10_passage) (pc := 23) 0 dX10_passage_23 rfl ?_
      refine V_grL (Y := m_X10_passage) (pc := 24) (x := 1) 0 kX10 sM_0 (by decide +kernel) rfl rfl tw_1070 dX10_passage_24 ?_
      refine V_iconst (Y := m_X10_passage) (pc := 27) (x := (2 : Int32)) dX10_passage_27 (by decide +kernel) ?_
      refine V_ialdL (Y := m_X10_passage) (pc := 28) (j := 2) sM_1 (by decide +kernel) rfl dX10_passage_28 ?_
      refine V_bipush (Y := m_X10_passage) (pc := 29) (x := (20 : Int32)) dX10_passage_29 (by decide +kernel) ?_
      refine V_icmp_ne (Y := m_X10_passage) (pc := 31) (tgt := 37) dX10_passage_31 (by decide +kernel) hf (fun hf => ?_) (fun hf => ?_)
      · refine V_bipush (Y := m_X10_passage) (pc := 37) (x := (50 : Int32)) dX10_passage_37 (by decide +kernel) ?_
        refine V_iconst (Y := m_X10_passage) (pc := 39) (x := (3 : Int32)) dX10_passage_39 (by decide +kernel) ?_
        refine V_aload_n (Y := m_X10_passage) (pc := 40) 0 dX10_passage_40 rfl ?_
        refine V_grL (Y := m_X10_passage) (pc := 41) (x := 1) 0 kX10 sM_0 (by decide +kernel) rfl rfl tw_1070 dX10_passage_41 ?_
        refine V_iconst (Y := m_X10_passage) (pc := 44) (x := (2 : Int32)) dX10_passage_44 (by decide +kernel) ?_
        refine V_ialdL (Y := m_X10_passage) (pc := 45) (j := 2) sM_1 (by decide +kernel) rfl dX10_passage_45 ?_
        refine V_imul (Y := m_X10_passage) (pc := 46) dX10_passage_46 ?_
        refine V_iadd (Y := m_X10_passage) (pc := 47) dX10_passage_47 ?_
        refine V_istore (Y := m_X10_passage) (pc := 48) [(4, .int ((50 : Int32) + ((3 : Int32) * (q2.2 1 2)))), (0, .ref (b + 0)), (1, .int x1), (2, .int x2), (3, .int x3)] dX10_passage_48 (by decide +kernel) rfl ?_
        refine V_aload_n (Y := m_X10_passage) (pc := 50) 1 dX10_passage_50 rfl ?_
        refine V_grL (Y := m_X10_passage) (pc := 51) (x := 1) 0 kX10 sM_0 (by decide +kernel) rfl rfl tw_1070 dX10_passage_51 ?_
        refine V_iload (Y := m_X10_passage) (pc := 54) 0 dX10_passage_54 rfl ?_
        refine V_iload_n (Y := m_X10_passage) (pc := 56) 2 dX10_passage_56 rfl ?_
        obtain ⟨hi3, hf⟩ := g_if hf
        refine V_iast (Y := m_X10_passage) (pc := 57) sM_1 hi3 dX10_passage_57 ?_
        refine V_aload_n (Y := m_X10_passage) (pc := 58) 1 dX10_passage_58 rfl ?_
        refine V_grL (Y := m_X10_passage) (pc := 59) (x := 1) 0 kX10 sM_0 (by decide +kernel) rfl rfl tw_1070 dX10_passage_59 ?_
        refine V_iload (Y := m_X10_passage) (pc := 62) 0 dX10_passage_62 rfl ?_
        refine V_iconst (Y := m_X10_passage) (pc := 64) (x := (1 : Int32)) dX10_passage_64 (by decide +kernel) ?_
        refine V_iadd (Y := m_X10_passage) (pc := 65) dX10_passage_65 ?_
        refine V_iload_n (Y := m_X10_passage) (pc := 66) 3 dX10_passage_66 rfl ?_
        obtain ⟨hi4, hf⟩ := g_if hf
        refine V_iast (Y := m_X10_passage) (pc := 67) sM_1 hi4 dX10_passage_67 ?_
        exact V_sub [1, 4, 0] rfl (ok_X10_passage_bc68_1  x3 ((50 : Int32) + ((3 : Int32) * (q2.2 1 2))) (mset (mset q2.2 1 (ix ((50 : Int32) + ((3 : Int32) * (q2.2 1 2)))) x1) 1 (ix (((50 : Int32) + ((3 : Int32) * (q2.2 1 2))) + (1 : Int32))) x2) z  hf)
      · refine V_ldc (Y := m_X10_passage) (pc := 34) (x := (-1000000003 : Int32)) dX10_passage_34 tw_1225 ?_
        obtain rfl := Option.some.inj hf
        exact V_iret (Y := m_X10_passage) rfl dX10_passage_36
    · refine V_ldc (Y := m_X10_passage) (pc := 20) (x := (-1000000001 : Int32)) dX10_passage_20 tw_1224 ?_
      obtain rfl := Option.some.inj hf
      exact V_iret (Y := m_X10_passage) rfl dX10_passage_22
def f_X10_passage (x1 : Int32) (x2 : Int32) (x3 : Int32) (M : Mem) : Option (Int32 × Mem) := f_X10_passage_b0 x1 x2 x3 M
set_option maxRecDepth 20000 in
set_option maxHeartbeats 4000000 in
theorem ok_X10_passage {l : Launch} {g : Gam} {b : Nat} : ∀ (x1 : Int32) (x2 : Int32) (x3 : Int32) (M : Mem) (z : Int32 × Mem), f_X10_passage x1 x2 x3 M = some z → Cn l g (wM b) m_X10_passage [.ref (b + 0), .int x1, .int x2, .int x3] M (some (.int z.1)) z.2 := fun x1 x2 x3 M z  hf => Cn_of (by decide +kernel) (Nat.le_of_ble_eq_true rfl) (V_sub [0, 1, 2, 3] rfl (ok_X10_passage_b0 x1 x2 x3 M z  hf))

abbrev m_X10_passed : Mth := (yX10_passed, cX10_passed, 8, some .int, 1)
theorem yf_X10_passed : YF m_X10_passed 3 := ⟨tw_1501, tw_75, by decide +kernel, by decide +kernel⟩
def f_X10_passed_b106 (k6 : Int32 → Int32 → Int32 → Int32 → Int32 → Mem → Option (Int32 × Mem)) (x1 : Int32) (x2 : Int32) (x3 : Int32) (x5 : Int32) (s0 : Int32) (s1 : Int32) (M : Mem) : Option (Int32 × Mem) :=
  k6 x1 x2 x3 (s1 + s0) (x5 + (1 : Int32)) M
set_option maxRecDepth 20000 in
set_option maxHeartbeats 4000000 in
theorem ok_X10_passed_b106 {l : Launch} {g : Gam} {b : Nat} (k6 : Int32 → Int32 → Int32 → Int32 → Int32 → Mem → Option (Int32 × Mem)) (hk6 : ∀ (x1 : Int32) (x2 : Int32) (x3 : Int32) (x4 : Int32) (x5 : Int32) (M : Mem) (z : Int32 × Mem), k6 x1 x2 x3 x4 x5 M = some z → V l g (wM b) m_X10_passed 6 [(0, .ref (b + 0)), (1, .int x1), (2, .int x2), (3, .int x3), (4, .int x4), (5, .int x5)] [] M (some (.int z.1)) z.2) (x1 : Int32) (x2 : Int32) (x3 : Int32) (x5 : Int32) (s0 : Int32) (s1 : Int32) (M : Mem) (z : Int32 × Mem)  (hf : f_X10_passed_b106 k6 x1 x2 x3 x5 s0 s1 M = some z) : V l g (wM b) m_X10_passed 106 [(0, .ref (b + 0)), (1, .int x1), (2, .int x2), (3, .int x3), (5, .int x5)] [.int s0, .int s1] M (some (.int z.1)) z.2 := by
  unfold f_X10_passed_b106 at hf
  refine V_iadd (Y := m_X10_passed) (pc := 106) dX10_passed_106 ?_
  refine V_istore (Y := m_X10_passed) (pc := 107) [(4, .int (s1 + s0)), (0, .ref (b + 0)), (1, .int x1), (2, .int x2), (3, .int x3), (5, .int x5)] dX10_passed_107 (by decide +kernel) rfl ?_
  refine V_iinc (Y := m_X10_passed) (pc := 109) (y := (x5 + (1 : Int32))) 5 [(5, .int (x5 + (1 : Int32))), (4, .int (s1 + s0)), (0, .ref (b + 0)), (1, .int x1), (2, .int x2), (3, .int x3)] dX10_passed_109 rfl rfl (by decide +kernel) rfl ?_
  refine V_goto (Y := m_X10_passed) (pc := 112) (tgt := 6) dX10_passed_112 (by decide +kernel) ?_
  exact V_sub [2, 3, 4, 5, 1, 0] rfl (hk6 x1 x2 x3 (s1 + s0) (x5 + (1 : Int32)) M z  hf)
def f_X10_passed_b105 (k6 : Int32 → Int32 → Int32 → Int32 → Int32 → Mem → Option (Int32 × Mem)) (x1 : Int32) (x2 : Int32) (x3 : Int32) (x5 : Int32) (s0 : Int32) (M : Mem) : Option (Int32 × Mem) :=
  f_X10_passed_b106 k6 x1 x2 x3 x5 (0 : Int32) s0 M
set_option maxRecDepth 20000 in
set_option maxHeartbeats 4000000 in
theorem ok_X10_passed_b105 {l : Launch} {g : Gam} {b : Nat} (k6 : Int32 → Int32 → Int32 → Int32 → Int32 → Mem → Option (Int32 × Mem)) (hk6 : ∀ (x1 : Int32) (x2 : Int32) (x3 : Int32) (x4 : Int32) (x5 : Int32) (M : Mem) (z : Int32 × Mem), k6 x1 x2 x3 x4 x5 M = some z → V l g (wM b) m_X10_passed 6 [(0, .ref (b + 0)), (1, .int x1), (2, .int x2), (3, .int x3), (4, .int x4), (5, .int x5)] [] M (some (.int z.1)) z.2) (x1 : Int32) (x2 : Int32) (x3 : Int32) (x5 : Int32) (s0 : Int32) (M : Mem) (z : Int32 × Mem)  (hf : f_X10_passed_b105 k6 x1 x2 x3 x5 s0 M = some z) : V l g (wM b) m_X10_passed 105 [(0, .ref (b + 0)), (1, .int x1), (2, .int x2), (3, .int x3), (5, .int x5)] [.int s0] M (some (.int z.1)) z.2 := by
  unfold f_X10_passed_b105 at hf
  refine V_iconst (Y := m_X10_passed) (pc := 105) (x := (0 : Int32)) dX10_passed_105 (by decide +kernel) ?_
  exact V_sub [0, 1, 2, 3, 4] rfl (ok_X10_passed_b106 k6 hk6 x1 x2 x3 x5 (0 : Int32) s0 M z  hf)
def f_X10_passed_b79 (k6 : Int32 → Int32 → Int32 → Int32 → Int32 → Mem → Option (Int32 × Mem)) (x1 : Int32) (x2 : Int32) (x3 : Int32) (x4 : Int32) (x5 : Int32) (x6 : Int32) (s0 : Int32) (M : Mem) : Option (Int32 × Mem) :=
  if s0 = 0 then
    f_X10_passed_b105 k6 x1 x2 x3 x5 x4 M
  else
    if ixb (x6 + (2 : Int32)) 3300 = true then
    if (M 1 (ix (x6 + (2 : Int32)))) = x3 then
      f_X10_passed_b106 k6 x1 x2 x3 x5 (1 : Int32) x4 M
    else
      f_X10_passed_b105 k6 x1 x2 x3 x5 x4 M
    else none
set_option maxRecDepth 20000 in
set_option maxHeartbeats 4000000 in
theorem ok_X10_passed_b79 {l : Launch} {g : Gam} {b : Nat} (k6 : Int32 → Int32 → Int32 → Int32 → Int32 → Mem → Option (Int32 × Mem)) (hk6 : ∀ (x1 : Int32) (x2 : Int32) (x3 : Int32) (x4 : Int32) (x5 : Int32) (M : Mem) (z : Int32 × Mem), k6 x1 x2 x3 x4 x5 M = some z → V l g (wM b) m_X10_passed 6 [(0, .ref (b + 0)), (1, .int x1), (2, .int x2), (3, .int x3), (4, .int x4), (5, .int x5)] [] M (some (.int z.1)) z.2) (x1 : Int32) (x2 : Int32) (x3 : Int32) (x4 : Int32) (x5 : Int32) (x6 : Int32) (s0 : Int32) (M : Mem) (z : Int32 × Mem)  (hf : f_X10_passed_b79 k6 x1 x2 x3 x4 x5 x6 s0 M = some z) : V l g (wM b) m_X10_passed 79 [(0, .ref (b + 0)), (1, .int x1), (2, .int x2), (3, .int x3), (4, .int x4), (5, .int x5), (6, .int x6)] [.int s0] M (some (.int z.1)) z.2 := by
  unfold f_X10_passed_b79 at hf
  refine V_istore (Y := m_X10_passed) (pc := 79) [(7, .int s0), (0, .ref (b + 0)), (1, .int x1), (2, .int x2), (3, .int x3), (4, .int x4), (5, .int x5), (6, .int x6)] dX10_passed_79 (by decide +kernel) rfl ?_
  refine V_iload (Y := m_X10_passed) (pc := 81) 5 dX10_passed_81 rfl ?_
  refine V_iload (Y := m_X10_passed) (pc := 83) 0 dX10_passed_83 rfl ?_
  refine V_if_eq (Y := m_X10_passed) (pc := 85) (tgt := 105) dX10_passed_85 (by decide +kernel) hf (fun hf => ?_) (fun hf => ?_)
  · exact V_sub [1, 2, 3, 4, 6] rfl (ok_X10_passed_b105 k6 hk6 x1 x2 x3 x5 x4 M z  hf)
  · refine V_aload_n (Y := m_X10_passed) (pc := 88) 1 dX10_passed_88 rfl ?_
    refine V_grL (Y := m_X10_passed) (pc := 89) (x := 1) 0 kX10 sM_0 (by decide +kernel) rfl rfl tw_1070 dX10_passed_89 ?_
    refine V_iload (Y := m_X10_passed) (pc := 92) 7 dX10_passed_92 rfl ?_
    refine V_iconst (Y := m_X10_passed) (pc := 94) (x := (2 : Int32)) dX10_passed_94 (by decide +kernel) ?_
    refine V_iadd (Y := m_X10_passed) (pc := 95) dX10_passed_95 ?_
    obtain ⟨hi1, hf⟩ := g_if hf
    refine V_iald (Y := m_X10_passed) (pc := 96) sM_1 hi1 dX10_passed_96 ?_
    refine V_iload_n (Y := m_X10_passed) (pc := 97) 4 dX10_passed_97 rfl ?_
    refine V_icmp_ne (Y := m_X10_passed) (pc := 98) (tgt := 105) dX10_passed_98 (by decide +kernel) hf (fun hf => ?_) (fun hf => ?_)
    · exact V_sub [1, 2, 3, 4, 6] rfl (ok_X10_passed_b105 k6 hk6 x1 x2 x3 x5 x4 M z  hf)
    · refine V_iconst (Y := m_X10_passed) (pc := 101) (x := (1 : Int32)) dX10_passed_101 (by decide +kernel) ?_
      refine V_goto (Y := m_X10_passed) (pc := 102) (tgt := 106) dX10_passed_102 (by decide +kernel) ?_
      exact V_sub [1, 2, 3, 4, 6] rfl (ok_X10_passed_b106 k6 hk6 x1 x2 x3 x5 (1 : Int32) x4 M z  hf)
def f_X10_passed_b78 (k6 : Int32 → Int32 → Int32 → Int32 → Int32 → Mem → Option (Int32 × Mem)) (x1 : Int32) (x2 : Int32) (x3 : Int32) (x4 : Int32) (x5 : Int32) (x6 : Int32) (M : Mem) : Option (Int32 × Mem) :=
  f_X10_passed_b79 k6 x1 x2 x3 x4 x5 x6 (0 : Int32) M
set_option maxRecDepth 20000 in
set_option maxHeartbeats 4000000 in
theorem ok_X10_passed_b78 {l : Launch} {g : Gam} {b : Nat} (k6 : Int32 → Int32 → Int32 → Int32 → Int32 → Mem → Option (Int32 × Mem)) (hk6 : ∀ (x1 : Int32) (x2 : Int32) (x3 : Int32) (x4 : Int32) (x5 : Int32) (M : Mem) (z : Int32 × Mem), k6 x1 x2 x3 x4 x5 M = some z → V l g (wM b) m_X10_passed 6 [(0, .ref (b + 0)), (1, .int x1), (2, .int x2), (3, .int x3), (4, .int x4), (5, .int x5)] [] M (some (.int z.1)) z.2) (x1 : Int32) (x2 : Int32) (x3 : Int32) (x4 : Int32) (x5 : Int32) (x6 : Int32) (M : Mem) (z : Int32 × Mem)  (hf : f_X10_passed_b78 k6 x1 x2 x3 x4 x5 x6 M = some z) : V l g (wM b) m_X10_passed 78 [(0, .ref (b + 0)), (1, .int x1), (2, .int x2), (3, .int x3), (4, .int x4), (5, .int x5), (6, .int x6)] [] M (some (.int z.1)) z.2 := by
  unfold f_X10_passed_b78 at hf
  refine V_iconst (Y := m_X10_passed) (pc := 78) (x := (0 : Int32)) dX10_passed_78 (by decide +kernel) ?_
  exact V_sub [0, 1, 2, 3, 4, 5, 6] rfl (ok_X10_passed_b79 k6 hk6 x1 x2 x3 x4 x5 x6 (0 : Int32) M z  hf)
def f_X10_passed_b74 (k6 : Int32 → Int32 → Int32 → Int32 → Int32 → Mem → Option (Int32 × Mem)) (x1 : Int32) (x2 : Int32) (x3 : Int32) (x4 : Int32) (x5 : Int32) (x6 : Int32) (M : Mem) : Option (Int32 × Mem) :=
  f_X10_passed_b79 k6 x1 x2 x3 x4 x5 x6 (1 : Int32) M
set_option maxRecDepth 20000 in
set_option maxHeartbeats 4000000 in
theorem ok_X10_passed_b74 {l : Launch} {g : Gam} {b : Nat} (k6 : Int32 → Int32 → Int32 → Int32 → Int32 → Mem → Option (Int32 × Mem)) (hk6 : ∀ (x1 : Int32) (x2 : Int32) (x3 : Int32) (x4 : Int32) (x5 : Int32) (M : Mem) (z : Int32 × Mem), k6 x1 x2 x3 x4 x5 M = some z → V l g (wM b) m_X10_passed 6 [(0, .ref (b + 0)), (1, .int x1), (2, .int x2), (3, .int x3), (4, .int x4), (5, .int x5)] [] M (some (.int z.1)) z.2) (x1 : Int32) (x2 : Int32) (x3 : Int32) (x4 : Int32) (x5 : Int32) (x6 : Int32) (M : Mem) (z : Int32 × Mem)  (hf : f_X10_passed_b74 k6 x1 x2 x3 x4 x5 x6 M = some z) : V l g (wM b) m_X10_passed 74 [(0, .ref (b + 0)), (1, .int x1), (2, .int x2), (3, .int x3), (4, .int x4), (5, .int x5), (6, .int x6)] [] M (some (.int z.1)) z.2 := by
  unfold f_X10_passed_b74 at hf
  refine V_iconst (Y := m_X10_passed) (pc := 74) (x := (1 : Int32)) dX10_passed_74 (by decide +kernel) ?_
  refine V_goto (Y := m_X10_passed) (pc := 75) (tgt := 79) dX10_passed_75 (by decide +kernel) ?_
  exact V_sub [0, 1, 2, 3, 4, 5, 6] rfl (ok_X10_passed_b79 k6 hk6 x1 x2 x3 x4 x5 x6 (1 : Int32) M z  hf)
def f_X10_passed_b50 (k6 : Int32 → Int32 → Int32 → Int32 → Int32 → Mem → Option (Int32 × Mem)) (x1 : Int32) (x2 : Int32) (x3 : Int32) (x4 : Int32) (x5 : Int32) (x6 : Int32) (M : Mem) : Option (Int32 × Mem) :=
  if ixb x6 3300 = true then
  if (M 1 (ix x6)) = x2 then
    if ixb (x6 + (1 : Int32)) 3300 = true then
    if (M 1 (ix (x6 + (1 : Int32)))) = x1 then
      f_X10_passed_b74 k6 x1 x2 x3 x4 x5 x6 M
    else
      f_X10_passed_b78 k6 x1 x2 x3 x4 x5 x6 M
    else none
  else
    f_X10_passed_b78 k6 x1 x2 x3 x4 x5 x6 M
  else none
set_option maxRecDepth 20000 in
set_option maxHeartbeats 4000000 in
theorem ok_X10_passed_b50 {l : Launch} {g : Gam} {b : Nat} (k6 : Int32 → Int32 → Int32 → Int32 → Int32 → Mem → Option (Int32 × Mem)) (hk6 : ∀ (x1 : Int32) (x2 : Int32) (x3 : Int32) (x4 : Int32) (x5 : Int32) (M : Mem) (z : Int32 × Mem), k6 x1 x2 x3 x4 x5 M = some z → V l g (wM b) m_X10_passed 6 [(0, .ref (b + 0)), (1, .int x1), (2, .int x2), (3, .int x3), (4, .int x4), (5, .int x5)] [] M (some (.int z.1)) z.2) (x1 : Int32) (x2 : Int32) (x3 : Int32) (x4 : Int32) (x5 : Int32) (x6 : Int32) (M : Mem) (z : Int32 × Mem)  (hf : f_X10_passed_b50 k6 x1 x2 x3 x4 x5 x6 M = some z) : V l g (wM b) m_X10_passed 50 [(0, .ref (b + 0)), (1, .int x1), (2, .int x2), (3, .int x3), (4, .int x4), (5, .int x5), (6, .int x6)] [] M (some (.int z.1)) z.2 := by
  unfold f_X10_passed_b50 at hf
  refine V_aload_n (Y := m_X10_passed) (pc := 50) 0 dX10_passed_50 rfl ?_
  refine V_grL (Y := m_X10_passed) (pc := 51) (x := 1) 0 kX10 sM_0 (by decide +kernel) rfl rfl tw_1070 dX10_passed_51 ?_
  refine V_iload (Y := m_X10_passed) (pc := 54) 6 dX10_passed_54 rfl ?_
  obtain ⟨hi1, hf⟩ := g_if hf
  refine V_iald (Y := m_X10_passed) (pc := 56) sM_1 hi1 dX10_passed_56 ?_
  refine V_iload_n (Y := m_X10_passed) (pc := 57) 2 dX10_passed_57 rfl ?_
  refine V_icmp_ne (Y := m_X10_passed) (pc := 58) (tgt := 78) dX10_passed_58 (by decide +kernel) hf (fun hf => ?_) (fun hf => ?_)
  · exact V_sub [0, 1, 2, 3, 4, 5, 6] rfl (ok_X10_passed_b78 k6 hk6 x1 x2 x3 x4 x5 x6 M z  hf)
  · refine V_aload_n (Y := m_X10_passed) (pc := 61) 0 dX10_passed_61 rfl ?_
    refine V_grL (Y := m_X10_passed) (pc := 62) (x := 1) 0 kX10 sM_0 (by decide +kernel) rfl rfl tw_1070 dX10_passed_62 ?_
    refine V_iload (Y := m_X10_passed) (pc := 65) 6 dX10_passed_65 rfl ?_
    refine V_iconst (Y := m_X10_passed) (pc := 67) (x := (1 : Int32)) dX10_passed_67 (by decide +kernel) ?_
    refine V_iadd (Y := m_X10_passed) (pc := 68) dX10_passed_68 ?_
    obtain ⟨hi2, hf⟩ := g_if hf
    refine V_iald (Y := m_X10_passed) (pc := 69) sM_1 hi2 dX10_passed_69 ?_
    refine V_iload_n (Y := m_X10_passed) (pc := 70) 1 dX10_passed_70 rfl ?_
    refine V_icmp_ne (Y := m_X10_passed) (pc := 71) (tgt := 78) dX10_passed_71 (by decide +kernel) hf (fun hf => ?_) (fun hf => ?_)
    · exact V_sub [0, 1, 2, 3, 4, 5, 6] rfl (ok_X10_passed_b78 k6 hk6 x1 x2 x3 x4 x5 x6 M z  hf)
    · exact V_sub [0, 1, 2, 3, 4, 5, 6] rfl (ok_X10_passed_b74 k6 hk6 x1 x2 x3 x4 x5 x6 M z  hf)
def f_X10_passed_b6  : Nat → Int32 → Int32 → Int32 → Int32 → Int32 → Mem → Option (Int32 × Mem)
  | 0, _, _, _, _, _, _ => none
  | n + 1, x1, x2, x3, x4, x5, M =>
    if (M 1 2) ≤ x5 then
      some (x4, M)
    else
      if ixb ((50 : Int32) + ((3 : Int32) * x5)) 3300 = true then
      if (M 1 (ix ((50 : Int32) + ((3 : Int32) * x5)))) = x1 then
        if ixb (((50 : Int32) + ((3 : Int32) * x5)) + (1 : Int32)) 3300 = true then
        if (M 1 (ix (((50 : Int32) + ((3 : Int32) * x5)) + (1 : Int32)))) = x2 then
          f_X10_passed_b74 (f_X10_passed_b6  n) x1 x2 x3 x4 x5 ((50 : Int32) + ((3 : Int32) * x5)) M
        else
          f_X10_passed_b50 (f_X10_passed_b6  n) x1 x2 x3 x4 x5 ((50 : Int32) + ((3 : Int32) * x5)) M
        else none
      else
        f_X10_passed_b50 (f_X10_passed_b6  n) x1 x2 x3 x4 x5 ((50 : Int32) + ((3 : Int32) * x5)) M
      else none
set_option maxRecDepth 20000 in
set_option maxHeartbeats 4000000 in
theorem ok_X10_passed_b6 {l : Launch} {g : Gam} {b : Nat}   : ∀ (n : Nat) (x1 : Int32) (x2 : Int32) (x3 : Int32) (x4 : Int32) (x5 : Int32) (M : Mem) (z : Int32 × Mem), f_X10_passed_b6  n x1 x2 x3 x4 x5 M = some z → V l g (wM b) m_X10_passed 6 [(0, .ref (b + 0)), (1, .int x1), (2, .int x2), (3, .int x3), (4, .int x4), (5, .int x5)] [] M (some (.int z.1)) z.2 := by
  intro n
  induction n with
  | zero =>
    intro x1 x2 x3 x4 x5 M z  hf
    cases hf
  | succ n ih =>
    intro x1 x2 x3 x4 x5 M z  hf
    rw [f_X10_passed_b6] at hf
    refine V_iload (Y := m_X10_passed) (pc := 6) 5 dX10_passed_6 rfl ?_
    refine V_aload_n (Y := m_X10_passed) (pc := 8) 0 dX10_passed_8 rfl ?_
    refine V_grL (Y := m_X10_passed) (pc := 9) (x := 1) 0 kX10 sM_0 (by decide +kernel) rfl rfl tw_1070 dX10_passed_9 ?_
    refine V_iconst (Y := m_X10_passed) (pc := 12) (x := (2 : Int32)) dX10_passed_12 (by decide +kernel) ?_
    refine V_ialdL (Y := m_X10_passed) (pc := 13) (j := 2) sM_1 (by decide +kernel) rfl dX10_passed_13 ?_
    refine V_icmp_ge (Y := m_X10_passed) (pc := 14) (tgt := 115) dX10_passed_14 (by decide +kernel) hf (fun hf => ?_) (fun hf => ?_)
    · refine V_iload (Y := m_X10_passed) (pc := 115) 4 dX10_passed_115 rfl ?_
      obtain rfl := Option.some.inj hf
      exact V_iret (Y := m_X10_passed) rfl dX10_passed_117
    · refine V_bipush (Y := m_X10_passed) (pc := 17) (x := (50 : Int32)) dX10_passed_17 (by decide +kernel) ?_
      refine V_iconst (Y := m_X10_passed) (pc := 19) (x := (3 : Int32)) dX10_passed_19 (by decide +kernel) ?_
      refine V_iload (Y := m_X10_passed) (pc := 20) 5 dX10_passed_20 rfl ?_
      refine V_imul (Y := m_X10_passed) (pc := 22) dX10_passed_22 ?_
      refine V_iadd (Y := m_X10_passed) (pc := 23) dX10_passed_23 ?_
      refine V_istore (Y := m_X10_passed) (pc := 24) [(6, .int ((50 : Int32) + ((3 : Int32) * x5))), (0, .ref (b + 0)), (1, .int x1), (2, .int x2), (3, .int x3), (4, .int x4), (5, .int x5)] dX10_passed_24 (by decide +kernel) rfl ?_
      refine V_aload_n (Y := m_X10_passed) (pc := 26) 1 dX10_passed_26 rfl ?_
      refine V_grL (Y := m_X10_passed) (pc := 27) (x := 1) 0 kX10 sM_0 (by decide +kernel) rfl rfl tw_1070 dX10_passed_27 ?_
      refine V_iload (Y := m_X10_passed) (pc := 30) 0 dX10_passed_30 rfl ?_
      obtain ⟨hi1, hf⟩ := g_if hf
      refine V_iald (Y := m_X10_passed) (pc := 32) sM_1 hi1 dX10_passed_32 ?_
      refine V_iload_n (Y := m_X10_passed) (pc := 33) 2 dX10_passed_33 rfl ?_
      refine V_icmp_ne (Y := m_X10_passed) (pc := 34) (tgt := 50) dX10_passed_34 (by decide +kernel) hf (fun hf => ?_) (fun hf => ?_)
      · exact V_sub [1, 2, 3, 4, 5, 6, 0] rfl (ok_X10_passed_b50 (f_X10_passed_b6  n) ih x1 x2 x3 x4 x5 ((50 : Int32) + ((3 : Int32) * x5)) M z  hf)
      · refine V_aload_n (Y := m_X10_passed) (pc := 37) 1 dX10_passed_37 rfl ?_
        refine V_grL (Y := m_X10_passed) (pc := 38) (x := 1) 0 kX10 sM_0 (by decide +kernel) rfl rfl tw_1070 dX10_passed_38 ?_
        refine V_iload (Y := m_X10_passed) (pc := 41) 0 dX10_passed_41 rfl ?_
        refine V_iconst (Y := m_X10_passed) (pc := 43) (x := (1 : Int32)) dX10_passed_43 (by decide +kernel) ?_
        refine V_iadd (Y := m_X10_passed) (pc := 44) dX10_passed_44 ?_
        obtain ⟨hi2, hf⟩ := g_if hf
        refine V_iald (Y := m_X10_passed) (pc := 45) sM_1 hi2 dX10_passed_45 ?_
        refine V_iload_n (Y := m_X10_passed) (pc := 46) 3 dX10_passed_46 rfl ?_
        refine V_icmp_eq (Y := m_X10_passed) (pc := 47) (tgt := 74) dX10_passed_47 (by decide +kernel) hf (fun hf => ?_) (fun hf => ?_)
        · exact V_sub [1, 2, 3, 4, 5, 6, 0] rfl (ok_X10_passed_b74 (f_X10_passed_b6  n) ih x1 x2 x3 x4 x5 ((50 : Int32) + ((3 : Int32) * x5)) M z  hf)
        · exact V_sub [1, 2, 3, 4, 5, 6, 0] rfl (ok_X10_passed_b50 (f_X10_passed_b6  n) ih x1 x2 x3 x4 x5 ((50 : Int32) + ((3 : Int32) * x5)) M z  hf)
def f_X10_passed_b0  (x1 : Int32) (x2 : Int32) (x3 : Int32) (M : Mem) : Option (Int32 × Mem) :=
  f_X10_passed_b6  FU x1 x2 x3 (0 : Int32) (0 : Int32) M
set_option maxRecDepth 20000 in
set_option maxHeartbeats 4000000 in
theorem ok_X10_passed_b0 {l : Launch} {g : Gam} {b : Nat}   (x1 : Int32) (x2 : Int32) (x3 : Int32) (M : Mem) (z : Int32 × Mem)  (hf : f_X10_passed_b0 x1 x2 x3 M = some z) : V l g (wM b) m_X10_passed 0 [(0, .ref (b + 0)), (1, .int x1), (2, .int x2), (3, .int x3)] [] M (some (.int z.1)) z.2 := by
  unfold f_X10_passed_b0 at hf
  refine V_iconst (Y := m_X10_passed) (pc := 0) (x := (0 : Int32)) dX10_passed_0 (by decide +kernel) ?_
  refine V_istore (Y := m_X10_passed) (pc := 1) [(4, .int (0 : Int32)), (0, .ref (b + 0)), (1, .int x1), (2, .int x2), (3, .int x3)] dX10_passed_1 (by decide +kernel) rfl ?_
  refine V_iconst (Y := m_X10_passed) (pc := 3) (x := (0 : Int32)) dX10_passed_3 (by decide +kernel) ?_
  refine V_istore (Y := m_X10_passed) (pc := 4) [(5, .int (0 : Int32)), (4, .int (0 : Int32)), (0, .ref (b + 0)), (1, .int x1), (2, .int x2), (3, .int x3)] dX10_passed_4 (by decide +kernel) rfl ?_
  exact V_sub [2, 3, 4, 5, 1, 0] rfl (ok_X10_passed_b6  FU x1 x2 x3 (0 : Int32) (0 : Int32) M z  hf)
def f_X10_passed (x1 : Int32) (x2 : Int32) (x3 : Int32) (M : Mem) : Option (Int32 × Mem) := f_X10_passed_b0 x1 x2 x3 M
set_option maxRecDepth 20000 in
set_option maxHeartbeats 4000000 in
theorem ok_X10_passed {l : Launch} {g : Gam} {b : Nat} : ∀ (x1 : Int32) (x2 : Int32) (x3 : Int32) (M : Mem) (z : Int32 × Mem), f_X10_passed x1 x2 x3 M = some z → Cn l g (wM b) m_X10_passed [.ref (b + 0), .int x1, .int x2, .int x3] M (some (.int z.1)) z.2 := fun x1 x2 x3 M z  hf => Cn_of (by decide +kernel) (Nat.le_of_ble_eq_true rfl) (V_sub [0, 1, 2, 3] rfl (ok_X10_passed_b0 x1 x2 x3 M z  hf))

abbrev m_X10_between : Mth := (yX10_between, cX10_between, 7, some .int, 4)
theorem yf_X10_between : YF m_X10_between 2 := ⟨tw_1497, tw_75, by decide +kernel, by decide +kernel⟩
def f_X10_between_b84  (x3 : Int32) (M : Mem) : Option (Int32 × Mem) :=
  if x3 = 0 then
    some ((1 : Int32), M)
  else
    some ((2 : Int32), M)
set_option maxRecDepth 20000 in
set_option maxHeartbeats 4000000 in
theorem ok_X10_between_b84 {l : Launch} {g : Gam} {b : Nat}   (x3 : Int32) (M : Mem) (z : Int32 × Mem)  (hf : f_X10_between_b84 x3 M = some z) : V l g (wM b) m_X10_between 84 [(3, .int x3)] [] M (some (.int z.1)) z.2 := by
  unfold f_X10_between_b84 at hf
  refine V_iload_n (Y := m_X10_between) (pc := 84) 0 dX10_between_84 rfl ?_
  refine V_if_eq (Y := m_X10_between) (pc := 85) (tgt := 92) dX10_between_85 (by decide +kernel) hf (fun hf => ?_) (fun hf => ?_)
  · refine V_iconst (Y := m_X10_between) (pc := 92) (x := (1 : Int32)) dX10_between_92 (by decide +kernel) ?_
    obtain rfl := Option.some.inj hf
    exact V_iret (Y := m_X10_between) rfl dX10_between_93
  · refine V_iconst (Y := m_X10_between) (pc := 88) (x := (2 : Int32)) dX10_between_88 (by decide +kernel) ?_
    refine V_goto (Y := m_X10_between) (pc := 89) (tgt := 93) dX10_between_89 (by decide +kernel) ?_
    obtain rfl := Option.some.inj hf
    exact V_iret (Y := m_X10_between) rfl dX10_between_93
def f_X10_between_b71  (x3 : Int32) (x4 : Int32) (M : Mem) : Option (Int32 × Mem) :=
  if x3 = 0 then
    f_X10_between_b84  x3 M
  else
    if x4 = 0 then
      f_X10_between_b84  x3 M
    else
      some ((3 : Int32), M)
set_option maxRecDepth 20000 in
set_option maxHeartbeats 4000000 in
theorem ok_X10_between_b71 {l : Launch} {g : Gam} {b : Nat}   (x3 : Int32) (x4 : Int32) (M : Mem) (z : Int32 × Mem)  (hf : f_X10_between_b71 x3 x4 M = some z) : V l g (wM b) m_X10_between 71 [(3, .int x3), (4, .int x4)] [] M (some (.int z.1)) z.2 := by
  unfold f_X10_between_b71 at hf
  refine V_iload_n (Y := m_X10_between) (pc := 71) 0 dX10_between_71 rfl ?_
  refine V_if_eq (Y := m_X10_between) (pc := 72) (tgt := 84) dX10_between_72 (by decide +kernel) hf (fun hf => ?_) (fun hf => ?_)
  · exact V_sub [0] rfl (ok_X10_between_b84  x3 M z  hf)
  · refine V_iload (Y := m_X10_between) (pc := 75) 1 dX10_between_75 rfl ?_
    refine V_if_eq (Y := m_X10_between) (pc := 77) (tgt := 84) dX10_between_77 (by decide +kernel) hf (fun hf => ?_) (fun hf => ?_)
    · exact V_sub [0] rfl (ok_X10_between_b84  x3 M z  hf)
    · refine V_iconst (Y := m_X10_between) (pc := 80) (x := (3 : Int32)) dX10_between_80 (by decide +kernel) ?_
      refine V_goto (Y := m_X10_between) (pc := 81) (tgt := 93) dX10_between_81 (by decide +kernel) ?_
      obtain rfl := Option.some.inj hf
      exact V_iret (Y := m_X10_between) rfl dX10_between_93
def f_X10_between_b42  (x1 : Int32) (x2 : Int32) (x3 : Int32) (s0 : Int32) (M : Mem) : Option (Int32 × Mem) :=
  (f_X10_passed x1 x2 (2 : Int32) M).bind fun q1 =>
  (f_X10_passed x1 x2 (3 : Int32) q1.2).bind fun q2 =>
  if x3 = 0 then
    if s0 = 0 then
      if q2.1 ≤ q1.1 then
        if q1.1 ≤ q2.1 then
          some ((0 : Int32), q2.2)
        else
          some ((5 : Int32), q2.2)
      else
        some ((4 : Int32), q2.2)
    else
      f_X10_between_b71  x3 s0 q2.2
  else
    f_X10_between_b71  x3 s0 q2.2
set_option maxRecDepth 20000 in
set_option maxHeartbeats 4000000 in
theorem ok_X10_between_b42 {l : Launch} {g : Gam} {b : Nat}   (x1 : Int32) (x2 : Int32) (x3 : Int32) (s0 : Int32) (M : Mem) (z : Int32 × Mem)  (hf : f_X10_between_b42 x1 x2 x3 s0 M = some z) : V l g (wM b) m_X10_between 42 [(0, .ref (b + 0)), (1, .int x1), (2, .int x2), (3, .int x3)] [.int s0] M (some (.int z.1)) z.2 := by
  unfold f_X10_between_b42 at hf
  refine V_istore (Y := m_X10_between) (pc := 42) [(4, .int s0), (0, .ref (b + 0)), (1, .int x1), (2, .int x2), (3, .int x3)] dX10_between_42 (by decide +kernel) rfl ?_
  refine V_aload_n (Y := m_X10_between) (pc := 44) 1 dX10_between_44 rfl ?_
  refine V_iload_n (Y := m_X10_between) (pc := 45) 2 dX10_between_45 rfl ?_
  refine V_iload_n (Y := m_X10_between) (pc := 46) 3 dX10_between_46 rfl ?_
  refine V_iconst (Y := m_X10_between) (pc := 47) (x := (2 : Int32)) dX10_between_47 (by decide +kernel) ?_
  obtain ⟨q1, hq1, hf⟩ := g_bind hf
  refine V_cVi (Y := m_X10_between) (pc := 48) (As := [.int x1, .int x2, .int (2 : Int32)]) yf_X10_passed kX10 sM_0 (by decide +kernel) (ok_X10_passed x1 x2 (2 : Int32) M _  hq1) tw_1500 tw_54 tw_1498 rfl rfl (Nat.le_of_ble_eq_true rfl) dX10_between_48 ?_
  refine V_istore (Y := m_X10_between) (pc := 51) [(5, .int q1.1), (4, .int s0), (0, .ref (b + 0)), (1, .int x1), (2, .int x2), (3, .int x3)] dX10_between_51 (by decide +kernel) rfl ?_
  refine V_aload_n (Y := m_X10_between) (pc := 53) 2 dX10_between_53 rfl ?_
  refine V_iload_n (Y := m_X10_between) (pc := 54) 3 dX10_between_54 rfl ?_
  refine V_iload_n (Y := m_X10_between) (pc := 55) 4 dX10_between_55 rfl ?_
  refine V_iconst (Y := m_X10_between) (pc := 56) (x := (3 : Int32)) dX10_between_56 (by decide +kernel) ?_
  obtain ⟨q2, hq2, hf⟩ := g_bind hf
  refine V_cVi (Y := m_X10_between) (pc := 57) (As := [.int x1, .int x2, .int (3 : Int32)]) yf_X10_passed kX10 sM_0 (by decide +kernel) (ok_X10_passed x1 x2 (3 : Int32) q1.2 _  hq2) tw_1500 tw_54 tw_1498 rfl rfl (Nat.le_of_ble_eq_true rfl) dX10_between_57 ?_
  refine V_istore (Y := m_X10_between) (pc := 60) [(6, .int q2.1), (5, .int q1.1), (4, .int s0), (0, .ref (b + 0)), (1, .int x1), (2, .int x2), (3, .int x3)] dX10_between_60 (by decide +kernel) rfl ?_
  refine V_iload_n (Y := m_X10_between) (pc := 62) 6 dX10_between_62 rfl ?_
  refine V_if_ne (Y := m_X10_between) (pc := 63) (tgt := 71) dX10_between_63 (by decide +kernel) hf (fun hf => ?_) (fun hf => ?_)
  · exact V_sub [6, 2] rfl (ok_X10_between_b71  x3 s0 q2.2 z  hf)
  · refine V_iload (Y := m_X10_between) (pc := 66) 2 dX10_between_66 rfl ?_
    refine V_if_eq (Y := m_X10_between) (pc := 68) (tgt := 94) dX10_between_68 (by decide +kernel) hf (fun hf => ?_) (fun hf => ?_)
    · refine V_iload (Y := m_X10_between) (pc := 94) 0 dX10_between_94 rfl ?_
      refine V_iload (Y := m_X10_between) (pc := 96) 1 dX10_between_96 rfl ?_
      refine V_icmp_le (Y := m_X10_between) (pc := 98) (tgt := 105) dX10_between_98 (by decide +kernel) hf (fun hf => ?_) (fun hf => ?_)
      · refine V_iload (Y := m_X10_between) (pc := 105) 0 dX10_between_105 rfl ?_
        refine V_iload (Y := m_X10_between) (pc := 107) 1 dX10_between_107 rfl ?_
        refine V_icmp_ge (Y := m_X10_between) (pc := 109) (tgt := 116) dX10_between_109 (by decide +kernel) hf (fun hf => ?_) (fun hf => ?_)
        · refine V_iconst (Y := m_X10_between) (pc := 116) (x := (0 : Int32)) dX10_between_116 (by decide +kernel) ?_
          obtain rfl := Option.some.inj hf
          exact V_iret (Y := m_X10_between) rfl dX10_between_117
        · refine V_iconst (Y := m_X10_between) (pc := 112) (x := (5 : Int32)) dX10_between_112 (by decide +kernel) ?_
          refine V_goto (Y := m_X10_between) (pc := 113) (tgt := 117) dX10_between_113 (by decide +kernel) ?_
          obtain rfl := Option.some.inj hf
          exact V_iret (Y := m_X10_between) rfl dX10_between_117
      · refine V_iconst (Y := m_X10_between) (pc := 101) (x := (4 : Int32)) dX10_between_101 (by decide +kernel) ?_
        refine V_goto (Y := m_X10_between) (pc := 102) (tgt := 117) dX10_between_102 (by decide +kernel) ?_
        obtain rfl := Option.some.inj hf
        exact V_iret (Y := m_X10_between) rfl dX10_between_117
    · exact V_sub [6, 2] rfl (ok_X10_between_b71  x3 s0 q2.2 z  hf)
def f_X10_between_b26  (x1 : Int32) (x2 : Int32) (s0 : Int32) (M : Mem) : Option (Int32 × Mem) :=
  (f_X10_passed x1 x2 (1 : Int32) M).bind fun q1 =>
  if q1.1 ≤ 0 then
    f_X10_between_b42  x1 x2 s0 (0 : Int32) q1.2
  else
    f_X10_between_b42  x1 x2 s0 (1 : Int32) q1.2
set_option maxRecDepth 20000 in
set_option maxHeartbeats 4000000 in
theorem ok_X10_between_b26 {l : Launch} {g : Gam} {b : Nat}   (x1 : Int32) (x2 : Int32) (s0 : Int32) (M : Mem) (z : Int32 × Mem)  (hf : f_X10_between_b26 x1 x2 s0 M = some z) : V l g (wM b) m_X10_between 26 [(0, .ref (b + 0)), (1, .int x1), (2, .int x2)] [.int s0] M (some (.int z.1)) z.2 := by
  unfold f_X10_between_b26 at hf
  refine V_istore_n (Y := m_X10_between) (pc := 26) [(3, .int s0), (0, .ref (b + 0)), (1, .int x1), (2, .int x2)] dX10_between_26 (by decide +kernel) rfl ?_
  refine V_aload_n (Y := m_X10_between) (pc := 27) 1 dX10_between_27 rfl ?_
  refine V_iload_n (Y := m_X10_between) (pc := 28) 2 dX10_between_28 rfl ?_
  refine V_iload_n (Y := m_X10_between) (pc := 29) 3 dX10_between_29 rfl ?_
  refine V_iconst (Y := m_X10_between) (pc := 30) (x := (1 : Int32)) dX10_between_30 (by decide +kernel) ?_
  obtain ⟨q1, hq1, hf⟩ := g_bind hf
  refine V_cVi (Y := m_X10_between) (pc := 31) (As := [.int x1, .int x2, .int (1 : Int32)]) yf_X10_passed kX10 sM_0 (by decide +kernel) (ok_X10_passed x1 x2 (1 : Int32) M _  hq1) tw_1500 tw_54 tw_1498 rfl rfl (Nat.le_of_ble_eq_true rfl) dX10_between_31 ?_
  refine V_if_le (Y := m_X10_between) (pc := 34) (tgt := 41) dX10_between_34 (by decide +kernel) hf (fun hf => ?_) (fun hf => ?_)
  · refine V_iconst (Y := m_X10_between) (pc := 41) (x := (0 : Int32)) dX10_between_41 (by decide +kernel) ?_
    exact V_sub [1, 2, 3, 0] rfl (ok_X10_between_b42  x1 x2 s0 (0 : Int32) q1.2 z  hf)
  · refine V_iconst (Y := m_X10_between) (pc := 37) (x := (1 : Int32)) dX10_between_37 (by decide +kernel) ?_
    refine V_goto (Y := m_X10_between) (pc := 38) (tgt := 42) dX10_between_38 (by decide +kernel) ?_
    exact V_sub [1, 2, 3, 0] rfl (ok_X10_between_b42  x1 x2 s0 (1 : Int32) q1.2 z  hf)
def f_X10_between_b0  (x1 : Int32) (x2 : Int32) (M : Mem) : Option (Int32 × Mem) :=
  (f_X10_areCapes x1 x2 M).bind fun q1 =>
  if q1.1 = 0 then
    some ((-1000000001 : Int32), q1.2)
  else
    (f_X10_passed x1 x2 (0 : Int32) q1.2).bind fun q2 =>
    if q2.1 ≤ 0 then
      f_X10_between_b26  x1 x2 (0 : Int32) q2.2
    else
      f_X10_between_b26  x1 x2 (1 : Int32) q2.2
set_option maxRecDepth 20000 in
set_option maxHeartbeats 4000000 in
theorem ok_X10_between_b0 {l : Launch} {g : Gam} {b : Nat}   (x1 : Int32) (x2 : Int32) (M : Mem) (z : Int32 × Mem)  (hf : f_X10_between_b0 x1 x2 M = some z) : V l g (wM b) m_X10_between 0 [(0, .ref (b + 0)), (1, .int x1), (2, .int x2)] [] M (some (.int z.1)) z.2 := by
  unfold f_X10_between_b0 at hf
  refine V_iload_n (Y := m_X10_between) (pc := 0) 1 dX10_between_0 rfl ?_
  refine V_iload_n (Y := m_X10_between) (pc := 1) 2 dX10_between_1 rfl ?_
  obtain ⟨q1, hq1, hf⟩ := g_bind hf
  refine V_cSi (Y := m_X10_between) (pc := 2) (As := [.int x1, .int x2]) yf_X10_areCapes (by decide +kernel) (ok_X10_areCapes x1 x2 M _  hq1) tw_1491 tw_1490 rfl rfl (Nat.le_of_ble_eq_true rfl) dX10_between_2 ?_
  refine V_if_ne (Y := m_X10_between) (pc := 5) (tgt := 11) dX10_between_5 (by decide +kernel) hf (fun hf => ?_) (fun hf => ?_)
  · refine V_aload_n (Y := m_X10_between) (pc := 11) 0 dX10_between_11 rfl ?_
    refine V_iload_n (Y := m_X10_between) (pc := 12) 1 dX10_between_12 rfl ?_
    refine V_iload_n (Y := m_X10_between) (pc := 13) 2 dX10_between_13 rfl ?_
    refine V_iconst (Y := m_X10_between) (pc := 14) (x := (0 : Int32)) dX10_between_14 (by decide +kernel) ?_
    obtain ⟨q2, hq2, hf⟩ := g_bind hf
    refine V_cVi (Y := m_X10_between) (pc := 15) (As := [.int x1, .int x2, .int (0 : Int32)]) yf_X10_passed kX10 sM_0 (by decide +kernel) (ok_X10_passed x1 x2 (0 : Int32) q1.2 _  hq2) tw_1500 tw_54 tw_1498 rfl rfl (Nat.le_of_ble_eq_true rfl) dX10_between_15 ?_
    refine V_if_le (Y := m_X10_between) (pc := 18) (tgt := 25) dX10_between_18 (by decide +kernel) hf (fun hf => ?_) (fun hf => ?_)
    · refine V_iconst (Y := m_X10_between) (pc := 25) (x := (0 : Int32)) dX10_between_25 (by decide +kernel) ?_
      exact V_sub [0, 1, 2] rfl (ok_X10_between_b26  x1 x2 (0 : Int32) q2.2 z  hf)
    · refine V_iconst (Y := m_X10_between) (pc := 21) (x := (1 : Int32)) dX10_between_21 (by decide +kernel) ?_
      refine V_goto (Y := m_X10_between) (pc := 22) (tgt := 26) dX10_between_22 (by decide +kernel) ?_
      exact V_sub [0, 1, 2] rfl (ok_X10_between_b26  x1 x2 (1 : Int32) q2.2 z  hf)
  · refine V_ldc (Y := m_X10_between) (pc := 8) (x := (-1000000001 : Int32)) dX10_between_8 tw_1224 ?_
    obtain rfl := Option.some.inj hf
    exact V_iret (Y := m_X10_between) rfl dX10_between_10
def f_X10_between (x1 : Int32) (x2 : Int32) (M : Mem) : Option (Int32 × Mem) := f_X10_between_b0 x1 x2 M
set_option maxRecDepth 20000 in
set_option maxHeartbeats 4000000 in
theorem ok_X10_between {l : Launch} {g : Gam} {b : Nat} : ∀ (x1 : Int32) (x2 : Int32) (M : Mem) (z : Int32 × Mem), f_X10_between x1 x2 M = some z → Cn l g (wM b) m_X10_between [.ref (b + 0), .int x1, .int x2] M (some (.int z.1)) z.2 := fun x1 x2 M z  hf => Cn_of (by decide +kernel) (Nat.le_of_ble_eq_true rfl) (V_sub [0, 1, 2] rfl (ok_X10_between_b0 x1 x2 M z  hf))

abbrev m_X10_same : Mth := (yX10_same, cX10_same, 6, some .int, 2)
theorem yf_X10_same : YF m_X10_same 2 := ⟨tw_1505, tw_75, by decide +kernel, by decide +kernel⟩
def f_X10_same_b135  (x3 : Int32) (M : Mem) : Option (Int32 × Mem) :=
  if x3 = 0 then
    some ((0 : Int32), M)
  else
    some ((1 : Int32), M)
set_option maxRecDepth 20000 in
set_option maxHeartbeats 4000000 in
theorem ok_X10_same_b135 {l : Launch} {g : Gam} {b : Nat}   (x3 : Int32) (M : Mem) (z : Int32 × Mem)  (hf : f_X10_same_b135 x3 M = some z) : V l g (wM b) m_X10_same 135 [(3, .int x3)] [] M (some (.int z.1)) z.2 := by
  unfold f_X10_same_b135 at hf
  refine V_iload_n (Y := m_X10_same) (pc := 135) 0 dX10_same_135 rfl ?_
  refine V_if_eq (Y := m_X10_same) (pc := 136) (tgt := 143) dX10_same_136 (by decide +kernel) hf (fun hf => ?_) (fun hf => ?_)
  · refine V_iconst (Y := m_X10_same) (pc := 143) (x := (0 : Int32)) dX10_same_143 (by decide +kernel) ?_
    obtain rfl := Option.some.inj hf
    exact V_iret (Y := m_X10_same) rfl dX10_same_144
  · refine V_iconst (Y := m_X10_same) (pc := 139) (x := (1 : Int32)) dX10_same_139 (by decide +kernel) ?_
    refine V_goto (Y := m_X10_same) (pc := 140) (tgt := 144) dX10_same_140 (by decide +kernel) ?_
    obtain rfl := Option.some.inj hf
    exact V_iret (Y := m_X10_same) rfl dX10_same_144
def f_X10_same_b129 (k37 : Int32 → Int32 → Int32 → Int32 → Mem → Option (Int32 × Mem)) (x1 : Int32) (x2 : Int32) (x3 : Int32) (x4 : Int32) (M : Mem) : Option (Int32 × Mem) :=
  k37 x1 x2 x3 (x4 + (1 : Int32)) M
set_option maxRecDepth 20000 in
set_option maxHeartbeats 4000000 in
theorem ok_X10_same_b129 {l : Launch} {g : Gam} {b : Nat} (k37 : Int32 → Int32 → Int32 → Int32 → Mem → Option (Int32 × Mem)) (hk37 : ∀ (x1 : Int32) (x2 : Int32) (x3 : Int32) (x4 : Int32) (M : Mem) (z : Int32 × Mem), k37 x1 x2 x3 x4 M = some z → V l g (wM b) m_X10_same 37 [(0, .ref (b + 0)), (1, .int x1), (2, .int x2), (3, .int x3), (4, .int x4)] [] M (some (.int z.1)) z.2) (x1 : Int32) (x2 : Int32) (x3 : Int32) (x4 : Int32) (M : Mem) (z : Int32 × Mem)  (hf : f_X10_same_b129 k37 x1 x2 x3 x4 M = some z) : V l g (wM b) m_X10_same 129 [(0, .ref (b + 0)), (1, .int x1), (2, .int x2), (3, .int x3), (4, .int x4)] [] M (some (.int z.1)) z.2 := by
  unfold f_X10_same_b129 at hf
  refine V_iinc (Y := m_X10_same) (pc := 129) (y := (x4 + (1 : Int32))) 4 [(4, .int (x4 + (1 : Int32))), (0, .ref (b + 0)), (1, .int x1), (2, .int x2), (3, .int x3)] dX10_same_129 rfl rfl (by decide +kernel) rfl ?_
  refine V_goto (Y := m_X10_same) (pc := 132) (tgt := 37) dX10_same_132 (by decide +kernel) ?_
  exact V_sub [1, 2, 3, 4, 0] rfl (hk37 x1 x2 x3 (x4 + (1 : Int32)) M z  hf)
def f_X10_same_b122 (k37 : Int32 → Int32 → Int32 → Int32 → Mem → Option (Int32 × Mem)) (k51 : Int32 → Int32 → Int32 → Int32 → Int32 → Mem → Option (Int32 × Mem)) (x1 : Int32) (x2 : Int32) (x4 : Int32) (x5 : Int32) (s0 : Int32) (M : Mem) : Option (Int32 × Mem) :=
  k51 x1 x2 s0 x4 (x5 + (1 : Int32)) M
set_option maxRecDepth 20000 in
set_option maxHeartbeats 4000000 in
theorem ok_X10_same_b122 {l : Launch} {g : Gam} {b : Nat} (k37 : Int32 → Int32 → Int32 → Int32 → Mem → Option (Int32 × Mem)) (k51 : Int32 → Int32 → Int32 → Int32 → Int32 → Mem → Option (Int32 × Mem)) (hk37 : ∀ (x1 : Int32) (x2 : Int32) (x3 : Int32) (x4 : Int32) (M : Mem) (z : Int32 × Mem), k37 x1 x2 x3 x4 M = some z → V l g (wM b) m_X10_same 37 [(0, .ref (b + 0)), (1, .int x1), (2, .int x2), (3, .int x3), (4, .int x4)] [] M (some (.int z.1)) z.2) (hk51 : ∀ (x1 : Int32) (x2 : Int32) (x3 : Int32) (x4 : Int32) (x5 : Int32) (M : Mem) (z : Int32 × Mem), k51 x1 x2 x3 x4 x5 M = some z → V l g (wM b) m_X10_same 51 [(0, .ref (b + 0)), (1, .int x1), (2, .int x2), (3, .int x3), (4, .int x4), (5, .int x5)] [] M (some (.int z.1)) z.2) (x1 : Int32) (x2 : Int32) (x4 : Int32) (x5 : Int32) (s0 : Int32) (M : Mem) (z : Int32 × Mem)  (hf : f_X10_same_b122 k37 k51 x1 x2 x4 x5 s0 M = some z) : V l g (wM b) m_X10_same 122 [(0, .ref (b + 0)), (1, .int x1), (2, .int x2), (4, .int x4), (5, .int x5)] [.int s0] M (some (.int z.1)) z.2 := by
  unfold f_X10_same_b122 at hf
  refine V_istore_n (Y := m_X10_same) (pc := 122) [(3, .int s0), (0, .ref (b + 0)), (1, .int x1), (2, .int x2), (4, .int x4), (5, .int x5)] dX10_same_122 (by decide +kernel) rfl ?_
  refine V_iinc (Y := m_X10_same) (pc := 123) (y := (x5 + (1 : Int32))) 5 [(5, .int (x5 + (1 : Int32))), (3, .int s0), (0, .ref (b + 0)), (1, .int x1), (2, .int x2), (4, .int x4)] dX10_same_123 rfl rfl (by decide +kernel) rfl ?_
  refine V_goto (Y := m_X10_same) (pc := 126) (tgt := 51) dX10_same_126 (by decide +kernel) ?_
  exact V_sub [2, 3, 4, 1, 5, 0] rfl (hk51 x1 x2 s0 x4 (x5 + (1 : Int32)) M z  hf)
def f_X10_same_b117 (k37 : Int32 → Int32 → Int32 → Int32 → Mem → Option (Int32 × Mem)) (k51 : Int32 → Int32 → Int32 → Int32 → Int32 → Mem → Option (Int32 × Mem)) (x1 : Int32) (x2 : Int32) (x4 : Int32) (x5 : Int32) (M : Mem) : Option (Int32 × Mem) :=
  f_X10_same_b122 k37 k51 x1 x2 x4 x5 (1 : Int32) M
set_option maxRecDepth 20000 in
set_option maxHeartbeats 4000000 in
theorem ok_X10_same_b117 {l : Launch} {g : Gam} {b : Nat} (k37 : Int32 → Int32 → Int32 → Int32 → Mem → Option (Int32 × Mem)) (k51 : Int32 → Int32 → Int32 → Int32 → Int32 → Mem → Option (Int32 × Mem)) (hk37 : ∀ (x1 : Int32) (x2 : Int32) (x3 : Int32) (x4 : Int32) (M : Mem) (z : Int32 × Mem), k37 x1 x2 x3 x4 M = some z → V l g (wM b) m_X10_same 37 [(0, .ref (b + 0)), (1, .int x1), (2, .int x2), (3, .int x3), (4, .int x4)] [] M (some (.int z.1)) z.2) (hk51 : ∀ (x1 : Int32) (x2 : Int32) (x3 : Int32) (x4 : Int32) (x5 : Int32) (M : Mem) (z : Int32 × Mem), k51 x1 x2 x3 x4 x5 M = some z → V l g (wM b) m_X10_same 51 [(0, .ref (b + 0)), (1, .int x1), (2, .int x2), (3, .int x3), (4, .int x4), (5, .int x5)] [] M (some (.int z.1)) z.2) (x1 : Int32) (x2 : Int32) (x4 : Int32) (x5 : Int32) (M : Mem) (z : Int32 × Mem)  (hf : f_X10_same_b117 k37 k51 x1 x2 x4 x5 M = some z) : V l g (wM b) m_X10_same 117 [(0, .ref (b + 0)), (1, .int x1), (2, .int x2), (4, .int x4), (5, .int x5)] [] M (some (.int z.1)) z.2 := by
  unfold f_X10_same_b117 at hf
  refine V_iconst (Y := m_X10_same) (pc := 117) (x := (1 : Int32)) dX10_same_117 (by decide +kernel) ?_
  refine V_goto (Y := m_X10_same) (pc := 118) (tgt := 122) dX10_same_118 (by decide +kernel) ?_
  exact V_sub [0, 1, 2, 3, 4] rfl (ok_X10_same_b122 k37 k51 hk37 hk51 x1 x2 x4 x5 (1 : Int32) M z  hf)
def f_X10_same_b121 (k37 : Int32 → Int32 → Int32 → Int32 → Mem → Option (Int32 × Mem)) (k51 : Int32 → Int32 → Int32 → Int32 → Int32 → Mem → Option (Int32 × Mem)) (x1 : Int32) (x2 : Int32) (x4 : Int32) (x5 : Int32) (M : Mem) : Option (Int32 × Mem) :=
  f_X10_same_b122 k37 k51 x1 x2 x4 x5 (0 : Int32) M
set_option maxRecDepth 20000 in
set_option maxHeartbeats 4000000 in
theorem ok_X10_same_b121 {l : Launch} {g : Gam} {b : Nat} (k37 : Int32 → Int32 → Int32 → Int32 → Mem → Option (Int32 × Mem)) (k51 : Int32 → Int32 → Int32 → Int32 → Int32 → Mem → Option (Int32 × Mem)) (hk37 : ∀ (x1 : Int32) (x2 : Int32) (x3 : Int32) (x4 : Int32) (M : Mem) (z : Int32 × Mem), k37 x1 x2 x3 x4 M = some z → V l g (wM b) m_X10_same 37 [(0, .ref (b + 0)), (1, .int x1), (2, .int x2), (3, .int x3), (4, .int x4)] [] M (some (.int z.1)) z.2) (hk51 : ∀ (x1 : Int32) (x2 : Int32) (x3 : Int32) (x4 : Int32) (x5 : Int32) (M : Mem) (z : Int32 × Mem), k51 x1 x2 x3 x4 x5 M = some z → V l g (wM b) m_X10_same 51 [(0, .ref (b + 0)), (1, .int x1), (2, .int x2), (3, .int x3), (4, .int x4), (5, .int x5)] [] M (some (.int z.1)) z.2) (x1 : Int32) (x2 : Int32) (x4 : Int32) (x5 : Int32) (M : Mem) (z : Int32 × Mem)  (hf : f_X10_same_b121 k37 k51 x1 x2 x4 x5 M = some z) : V l g (wM b) m_X10_same 121 [(0, .ref (b + 0)), (1, .int x1), (2, .int x2), (4, .int x4), (5, .int x5)] [] M (some (.int z.1)) z.2 := by
  unfold f_X10_same_b121 at hf
  refine V_iconst (Y := m_X10_same) (pc := 121) (x := (0 : Int32)) dX10_same_121 (by decide +kernel) ?_
  exact V_sub [0, 1, 2, 3, 4] rfl (ok_X10_same_b122 k37 k51 hk37 hk51 x1 x2 x4 x5 (0 : Int32) M z  hf)
def f_X10_same_b51 (k37 : Int32 → Int32 → Int32 → Int32 → Mem → Option (Int32 × Mem)) : Nat → Int32 → Int32 → Int32 → Int32 → Int32 → Mem → Option (Int32 × Mem)
  | 0, _, _, _, _, _, _ => none
  | n + 1, x1, x2, x3, x4, x5, M =>
    if (M 1 0) ≤ x5 then
      f_X10_same_b129 k37 x1 x2 x3 x4 M
    else
      if x3 = 0 then
        (f_X10_field x4 (6 : Int32) M).bind fun q1 =>
        if q1.1 = x1 then
          (f_X10_field x5 (6 : Int32) q1.2).bind fun q2 =>
          if q2.1 = x2 then
            (f_X10_field x4 (5 : Int32) q2.2).bind fun q3 =>
            if q3.1 < 0 then
              f_X10_same_b121 k37 (f_X10_same_b51 k37 n) x1 x2 x4 x5 q3.2
            else
              (f_X10_field x4 (5 : Int32) q3.2).bind fun q4 =>
              (f_X10_field x5 (5 : Int32) q4.2).bind fun q5 =>
              if q4.1 = q5.1 then
                f_X10_same_b117 k37 (f_X10_same_b51 k37 n) x1 x2 x4 x5 q5.2
              else
                f_X10_same_b121 k37 (f_X10_same_b51 k37 n) x1 x2 x4 x5 q5.2
          else
            f_X10_same_b121 k37 (f_X10_same_b51 k37 n) x1 x2 x4 x5 q2.2
        else
          f_X10_same_b121 k37 (f_X10_same_b51 k37 n) x1 x2 x4 x5 q1.2
      else
        f_X10_same_b117 k37 (f_X10_same_b51 k37 n) x1 x2 x4 x5 M
set_option maxRecDepth 20000 in
set_option maxHeartbeats 4000000 in
theorem ok_X10_same_b51 {l : Launch} {g : Gam} {b : Nat} (k37 : Int32 → Int32 → Int32 → Int32 → Mem → Option (Int32 × Mem)) (hk37 : ∀ (x1 : Int32) (x2 : Int32) (x3 : Int32) (x4 : Int32) (M : Mem) (z : Int32 × Mem), k37 x1 x2 x3 x4 M = some z → V l g (wM b) m_X10_same 37 [(0, .ref (b + 0)), (1, .int x1), (2, .int x2), (3, .int x3), (4, .int x4)] [] M (some (.int z.1)) z.2) : ∀ (n : Nat) (x1 : Int32) (x2 : Int32) (x3 : Int32) (x4 : Int32) (x5 : Int32) (M : Mem) (z : Int32 × Mem), f_X10_same_b51 k37 n x1 x2 x3 x4 x5 M = some z → V l g (wM b) m_X10_same 51 [(0, .ref (b + 0)), (1, .int x1), (2, .int x2), (3, .int x3), (4, .int x4), (5, .int x5)] [] M (some (.int z.1)) z.2 := by
  intro n
  induction n with
  | zero =>
    intro x1 x2 x3 x4 x5 M z  hf
    cases hf
  | succ n ih =>
    intro x1 x2 x3 x4 x5 M z  hf
    rw [f_X10_same_b51] at hf
    refine V_iload (Y := m_X10_same) (pc := 51) 5 dX10_same_51 rfl ?_
    refine V_aload_n (Y := m_X10_same) (pc := 53) 0 dX10_same_53 rfl ?_
    refine V_grL (Y := m_X10_same) (pc := 54) (x := 1) 0 kX10 sM_0 (by decide +kernel) rfl rfl tw_1070 dX10_same_54 ?_
    refine V_iconst (Y := m_X10_same) (pc := 57) (x := (0 : Int32)) dX10_same_57 (by decide +kernel) ?_
    refine V_ialdL (Y := m_X10_same) (pc := 58) (j := 0) sM_1 (by decide +kernel) rfl dX10_same_58 ?_
    refine V_icmp_ge (Y := m_X10_same) (pc := 59) (tgt := 129) dX10_same_59 (by decide +kernel) hf (fun hf => ?_) (fun hf => ?_)
    · exact V_sub [0, 1, 2, 3, 4] rfl (ok_X10_same_b129 k37 hk37 x1 x2 x3 x4 M z  hf)
    · refine V_iload_n (Y := m_X10_same) (pc := 62) 3 dX10_same_62 rfl ?_
      refine V_if_ne (Y := m_X10_same) (pc := 63) (tgt := 117) dX10_same_63 (by decide +kernel) hf (fun hf => ?_) (fun hf => ?_)
      · exact V_sub [0, 1, 2, 4, 5] rfl (ok_X10_same_b117 k37 (f_X10_same_b51 k37 n) hk37 ih x1 x2 x4 x5 M z  hf)
      · refine V_aload_n (Y := m_X10_same) (pc := 66) 0 dX10_same_66 rfl ?_
        refine V_iload (Y := m_X10_same) (pc := 67) 4 dX10_same_67 rfl ?_
        refine V_bipush (Y := m_X10_same) (pc := 69) (x := (6 : Int32)) dX10_same_69 (by decide +kernel) ?_
        obtain ⟨q1, hq1, hf⟩ := g_bind hf
        refine V_cVi (Y := m_X10_same) (pc := 71) (As := [.int x4, .int (6 : Int32)]) yf_X10_field kX10 sM_0 (by decide +kernel) (ok_X10_field x4 (6 : Int32) M _  hq1) tw_1244 tw_20 tw_1242 rfl rfl (Nat.le_of_ble_eq_true rfl) dX10_same_71 ?_
        refine V_iload_n (Y := m_X10_same) (pc := 74) 1 dX10_same_74 rfl ?_
        refine V_icmp_ne (Y := m_X10_same) (pc := 75) (tgt := 121) dX10_same_75 (by decide +kernel) hf (fun hf => ?_) (fun hf => ?_)
        · exact V_sub [0, 1, 2, 4, 5] rfl (ok_X10_same_b121 k37 (f_X10_same_b51 k37 n) hk37 ih x1 x2 x4 x5 q1.2 z  hf)
        · refine V_aload_n (Y := m_X10_same) (pc := 78) 0 dX10_same_78 rfl ?_
          refine V_iload (Y := m_X10_same) (pc := 79) 5 dX10_same_79 rfl ?_
          refine V_bipush (Y := m_X10_same) (pc := 81) (x := (6 : Int32)) dX10_same_81 (by decide +kernel) ?_
          obtain ⟨q2, hq2, hf⟩ := g_bind hf
          refine V_cVi (Y := m_X10_same) (pc := 83) (As := [.int x5, .int (6 : Int32)]) yf_X10_field kX10 sM_0 (by decide +kernel) (ok_X10_field x5 (6 : Int32) q1.2 _  hq2) tw_1244 tw_20 tw_1242 rfl rfl (Nat.le_of_ble_eq_true rfl) dX10_same_83 ?_
          refine V_iload_n (Y := m_X10_same) (pc := 86) 2 dX10_same_86 rfl ?_
          refine V_icmp_ne (Y := m_X10_same) (pc := 87) (tgt := 121) dX10_same_87 (by decide +kernel) hf (fun hf => ?_) (fun hf => ?_)
          · exact V_sub [0, 1, 2, 4, 5] rfl (ok_X10_same_b121 k37 (f_X10_same_b51 k37 n) hk37 ih x1 x2 x4 x5 q2.2 z  hf)
          · refine V_aload_n (Y := m_X10_same) (pc := 90) 0 dX10_same_90 rfl ?_
            refine V_iload (Y := m_X10_same) (pc := 91) 4 dX10_same_91 rfl ?_
            refine V_iconst (Y := m_X10_same) (pc := 93) (x := (5 : Int32)) dX10_same_93 (by decide +kernel) ?_
            obtain ⟨q3, hq3, hf⟩ := g_bind hf
            refine V_cVi (Y := m_X10_same) (pc := 94) (As := [.int x4, .int (5 : Int32)]) yf_X10_field kX10 sM_0 (by decide +kernel) (ok_X10_field x4 (5 : Int32) q2.2 _  hq3) tw_1244 tw_20 tw_1242 rfl rfl (Nat.le_of_ble_eq_true rfl) dX10_same_94 ?_
            refine V_if_lt (Y := m_X10_same) (pc := 97) (tgt := 121) dX10_same_97 (by decide +kernel) hf (fun hf => ?_) (fun hf => ?_)
            · exact V_sub [0, 1, 2, 4, 5] rfl (ok_X10_same_b121 k37 (f_X10_same_b51 k37 n) hk37 ih x1 x2 x4 x5 q3.2 z  hf)
            · refine V_aload_n (Y := m_X10_same) (pc := 100) 0 dX10_same_100 rfl ?_
              refine V_iload (Y := m_X10_same) (pc := 101) 4 dX10_same_101 rfl ?_
              refine V_iconst (Y := m_X10_same) (pc := 103) (x := (5 : Int32)) dX10_same_103 (by decide +kernel) ?_
              obtain ⟨q4, hq4, hf⟩ := g_bind hf
              refine V_cVi (Y := m_X10_same) (pc := 104) (As := [.int x4, .int (5 : Int32)]) yf_X10_field kX10 sM_0 (by decide +kernel) (ok_X10_field x4 (5 : Int32) q3.2 _  hq4) tw_1244 tw_20 tw_1242 rfl rfl (Nat.le_of_ble_eq_true rfl) dX10_same_104 ?_
              refine V_aload_n (Y := m_X10_same) (pc := 107) 0 dX10_same_107 rfl ?_
              refine V_iload (Y := m_X10_same) (pc := 108) 5 dX10_same_108 rfl ?_
              refine V_iconst (Y := m_X10_same) (pc := 110) (x := (5 : Int32)) dX10_same_110 (by decide +kernel) ?_
              obtain ⟨q5, hq5, hf⟩ := g_bind hf
              refine V_cVi (Y := m_X10_same) (pc := 111) (As := [.int x5, .int (5 : Int32)]) yf_X10_field kX10 sM_0 (by decide +kernel) (ok_X10_field x5 (5 : Int32) q4.2 _  hq5) tw_1244 tw_20 tw_1242 rfl rfl (Nat.le_of_ble_eq_true rfl) dX10_same_111 ?_
              refine V_icmp_ne (Y := m_X10_same) (pc := 114) (tgt := 121) dX10_same_114 (by decide +kernel) hf (fun hf => ?_) (fun hf => ?_)
              · exact V_sub [0, 1, 2, 4, 5] rfl (ok_X10_same_b121 k37 (f_X10_same_b51 k37 n) hk37 ih x1 x2 x4 x5 q5.2 z  hf)
              · exact V_sub [0, 1, 2, 4, 5] rfl (ok_X10_same_b117 k37 (f_X10_same_b51 k37 n) hk37 ih x1 x2 x4 x5 q5.2 z  hf)
def f_X10_same_b37  : Nat → Int32 → Int32 → Int32 → Int32 → Mem → Option (Int32 × Mem)
  | 0, _, _, _, _, _ => none
  | n + 1, x1, x2, x3, x4, M =>
    if (M 1 0) ≤ x4 then
      f_X10_same_b135  x3 M
    else
      f_X10_same_b51 (f_X10_same_b37  n) FU x1 x2 x3 x4 (0 : Int32) M
set_option maxRecDepth 20000 in
set_option maxHeartbeats 4000000 in
theorem ok_X10_same_b37 {l : Launch} {g : Gam} {b : Nat}   : ∀ (n : Nat) (x1 : Int32) (x2 : Int32) (x3 : Int32) (x4 : Int32) (M : Mem) (z : Int32 × Mem), f_X10_same_b37  n x1 x2 x3 x4 M = some z → V l g (wM b) m_X10_same 37 [(0, .ref (b + 0)), (1, .int x1), (2, .int x2), (3, .int x3), (4, .int x4)] [] M (some (.int z.1)) z.2 := by
  intro n
  induction n with
  | zero =>
    intro x1 x2 x3 x4 M z  hf
    cases hf
  | succ n ih =>
    intro x1 x2 x3 x4 M z  hf
    rw [f_X10_same_b37] at hf
    refine V_iload (Y := m_X10_same) (pc := 37) 4 dX10_same_37 rfl ?_
    refine V_aload_n (Y := m_X10_same) (pc := 39) 0 dX10_same_39 rfl ?_
    refine V_grL (Y := m_X10_same) (pc := 40) (x := 1) 0 kX10 sM_0 (by decide +kernel) rfl rfl tw_1070 dX10_same_40 ?_
    refine V_iconst (Y := m_X10_same) (pc := 43) (x := (0 : Int32)) dX10_same_43 (by decide +kernel) ?_
    refine V_ialdL (Y := m_X10_same) (pc := 44) (j := 0) sM_1 (by decide +kernel) rfl dX10_same_44 ?_
    refine V_icmp_ge (Y := m_X10_same) (pc := 45) (tgt := 135) dX10_same_45 (by decide +kernel) hf (fun hf => ?_) (fun hf => ?_)
    · exact V_sub [3] rfl (ok_X10_same_b135  x3 M z  hf)
    · refine V_iconst (Y := m_X10_same) (pc := 48) (x := (0 : Int32)) dX10_same_48 (by decide +kernel) ?_
      refine V_istore (Y := m_X10_same) (pc := 49) [(5, .int (0 : Int32)), (0, .ref (b + 0)), (1, .int x1), (2, .int x2), (3, .int x3), (4, .int x4)] dX10_same_49 (by decide +kernel) rfl ?_
      exact V_sub [1, 2, 3, 4, 5, 0] rfl (ok_X10_same_b51 (f_X10_same_b37  n) ih FU x1 x2 x3 x4 (0 : Int32) M z  hf)
def f_X10_same_b0  (x1 : Int32) (x2 : Int32) (M : Mem) : Option (Int32 × Mem) :=
  (f_X10_isIn x1.toInt64 (0 : Int64) (9 : Int64) M).bind fun q1 =>
  if q1.1 = 0 then
    some ((-1000000001 : Int32), q1.2)
  else
    (f_X10_isIn x2.toInt64 (0 : Int64) (9 : Int64) q1.2).bind fun q2 =>
    if q2.1 = 0 then
      some ((-1000000001 : Int32), q2.2)
    else
      if x1 = x2 then
        some ((-1000000001 : Int32), q2.2)
      else
        f_X10_same_b37  FU x1 x2 (0 : Int32) (0 : Int32) q2.2
set_option maxRecDepth 20000 in
set_option maxHeartbeats 4000000 in
theorem ok_X10_same_b0 {l : Launch} {g : Gam} {b : Nat}   (x1 : Int32) (x2 : Int32) (M : Mem) (z : Int32 × Mem)  (hf : f_X10_same_b0 x1 x2 M = some z) : V l g (wM b) m_X10_same 0 [(0, .ref (b + 0)), (1, .int x1), (2, .int x2)] [] M (some (.int z.1)) z.2 := by
  unfold f_X10_same_b0 at hf
  refine V_iload_n (Y := m_X10_same) (pc := 0) 1 dX10_same_0 rfl ?_
  refine V_i2l (Y := m_X10_same) (pc := 1) dX10_same_1 ?_
  refine V_lconst (Y := m_X10_same) (pc := 2) (x := (0 : Int64)) dX10_same_2 (by decide +kernel) ?_
  refine V_ldc2 (Y := m_X10_same) (pc := 3) (x := (9 : Int64)) dX10_same_3 tw_1317 ?_
  obtain ⟨q1, hq1, hf⟩ := g_bind hf
  refine V_cSi (Y := m_X10_same) (pc := 6) (As := [.long x1.toInt64, .long (0 : Int64), .long (9 : Int64)]) yf_X10_isIn (by decide +kernel) (ok_X10_isIn x1.toInt64 (0 : Int64) (9 : Int64) M _  hq1) tw_1218 tw_1217 rfl rfl (Nat.le_of_ble_eq_true rfl) dX10_same_6 ?_
  refine V_if_eq (Y := m_X10_same) (pc := 9) (tgt := 29) dX10_same_9 (by decide +kernel) hf (fun hf => ?_) (fun hf => ?_)
  · refine V_ldc (Y := m_X10_same) (pc := 29) (x := (-1000000001 : Int32)) dX10_same_29 tw_1224 ?_
    obtain rfl := Option.some.inj hf
    exact V_iret (Y := m_X10_same) rfl dX10_same_31
  · refine V_iload_n (Y := m_X10_same) (pc := 12) 2 dX10_same_12 rfl ?_
    refine V_i2l (Y := m_X10_same) (pc := 13) dX10_same_13 ?_
    refine V_lconst (Y := m_X10_same) (pc := 14) (x := (0 : Int64)) dX10_same_14 (by decide +kernel) ?_
    refine V_ldc2 (Y := m_X10_same) (pc := 15) (x := (9 : Int64)) dX10_same_15 tw_1317 ?_
    obtain ⟨q2, hq2, hf⟩ := g_bind hf
    refine V_cSi (Y := m_X10_same) (pc := 18) (As := [.long x2.toInt64, .long (0 : Int64), .long (9 : Int64)]) yf_X10_isIn (by decide +kernel) (ok_X10_isIn x2.toInt64 (0 : Int64) (9 : Int64) q1.2 _  hq2) tw_1218 tw_1217 rfl rfl (Nat.le_of_ble_eq_true rfl) dX10_same_18 ?_
    refine V_if_eq (Y := m_X10_same) (pc := 21) (tgt := 29) dX10_same_21 (by decide +kernel) hf (fun hf => ?_) (fun hf => ?_)
    · refine V_ldc (Y := m_X10_same) (pc := 29) (x := (-1000000001 : Int32)) dX10_same_29 tw_1224 ?_
      obtain rfl := Option.some.inj hf
      exact V_iret (Y := m_X10_same) rfl dX10_same_31
    · refine V_iload_n (Y := m_X10_same) (pc := 24) 1 dX10_same_24 rfl ?_
      refine V_iload_n (Y := m_X10_same) (pc := 25) 2 dX10_same_25 rfl ?_
      refine V_icmp_ne (Y := m_X10_same) (pc := 26) (tgt := 32) dX10_same_26 (by decide +kernel) hf (fun hf => ?_) (fun hf => ?_)
      · refine V_iconst (Y := m_X10_same) (pc := 32) (x := (0 : Int32)) dX10_same_32 (by decide +kernel) ?_
        refine V_istore_n (Y := m_X10_same) (pc := 33) [(3, .int (0 : Int32)), (0, .ref (b + 0)), (1, .int x1), (2, .int x2)] dX10_same_33 (by decide +kernel) rfl ?_
        refine V_iconst (Y := m_X10_same) (pc := 34) (x := (0 : Int32)) dX10_same_34 (by decide +kernel) ?_
        refine V_istore (Y := m_X10_same) (pc := 35) [(4, .int (0 : Int32)), (3, .int (0 : Int32)), (0, .ref (b + 0)), (1, .int x1), (2, .int x2)] dX10_same_35 (by decide +kernel) rfl ?_
        exact V_sub [2, 3, 4, 1, 0] rfl (ok_X10_same_b37  FU x1 x2 (0 : Int32) (0 : Int32) q2.2 z  hf)
      · refine V_ldc (Y := m_X10_same) (pc := 29) (x := (-1000000001 : Int32)) dX10_same_29 tw_1224 ?_
        obtain rfl := Option.some.inj hf
        exact V_iret (Y := m_X10_same) rfl dX10_same_31
def f_X10_same (x1 : Int32) (x2 : Int32) (M : Mem) : Option (Int32 × Mem) := f_X10_same_b0 x1 x2 M
set_option maxRecDepth 20000 in
set_option maxHeartbeats 4000000 in
theorem ok_X10_same {l : Launch} {g : Gam} {b : Nat} : ∀ (x1 : Int32) (x2 : Int32) (M : Mem) (z : Int32 × Mem), f_X10_same x1 x2 M = some z → Cn l g (wM b) m_X10_same [.ref (b + 0), .int x1, .int x2] M (some (.int z.1)) z.2 := fun x1 x2 M z  hf => Cn_of (by decide +kernel) (Nat.le_of_ble_eq_true rfl) (V_sub [0, 1, 2] rfl (ok_X10_same_b0 x1 x2 M z  hf))

abbrev m_X10_kept : Mth := (yX10_kept, cX10_kept, 5, some .int, 3)
theorem yf_X10_kept : YF m_X10_kept 1 := ⟨tw_1509, tw_75, by decide +kernel, by decide +kernel⟩
def f_X10_kept_b87  (x2 : Int32) (M : Mem) : Option (Int32 × Mem) :=
  if 0 ≤ x2 then
    (f_X10_field x2 (6 : Int32) M).bind fun q1 =>
    some (q1.1, q1.2)
  else
    some ((-1000000005 : Int32), M)
set_option maxRecDepth 20000 in
set_option maxHeartbeats 4000000 in
theorem ok_X10_kept_b87 {l : Launch} {g : Gam} {b : Nat}   (x2 : Int32) (M : Mem) (z : Int32 × Mem)  (hf : f_X10_kept_b87 x2 M = some z) : V l g (wM b) m_X10_kept 87 [(0, .ref (b + 0)), (2, .int x2)] [] M (some (.int z.1)) z.2 := by
  unfold f_X10_kept_b87 at hf
  refine V_iload_n (Y := m_X10_kept) (pc := 87) 1 dX10_kept_87 rfl ?_
  refine V_if_ge (Y := m_X10_kept) (pc := 88) (tgt := 96) dX10_kept_88 (by decide +kernel) hf (fun hf => ?_) (fun hf => ?_)
  · refine V_aload_n (Y := m_X10_kept) (pc := 96) 0 dX10_kept_96 rfl ?_
    refine V_iload_n (Y := m_X10_kept) (pc := 97) 1 dX10_kept_97 rfl ?_
    refine V_bipush (Y := m_X10_kept) (pc := 98) (x := (6 : Int32)) dX10_kept_98 (by decide +kernel) ?_
    obtain ⟨q1, hq1, hf⟩ := g_bind hf
    refine V_cVi (Y := m_X10_kept) (pc := 100) (As := [.int x2, .int (6 : Int32)]) yf_X10_field kX10 sM_0 (by decide +kernel) (ok_X10_field x2 (6 : Int32) M _  hq1) tw_1244 tw_20 tw_1242 rfl rfl (Nat.le_of_ble_eq_true rfl) dX10_kept_100 ?_
    obtain rfl := Option.some.inj hf
    exact V_iret (Y := m_X10_kept) rfl dX10_kept_103
  · refine V_ldc (Y := m_X10_kept) (pc := 91) (x := (-1000000005 : Int32)) dX10_kept_91 tw_1249 ?_
    refine V_goto (Y := m_X10_kept) (pc := 93) (tgt := 103) dX10_kept_93 (by decide +kernel) ?_
    obtain rfl := Option.some.inj hf
    exact V_iret (Y := m_X10_kept) rfl dX10_kept_103
def f_X10_kept_b80 (k14 : Int32 → Int32 → Int32 → Mem → Option (Int32 × Mem)) (x1 : Int32) (x3 : Int32) (s0 : Int32) (M : Mem) : Option (Int32 × Mem) :=
  k14 x1 s0 (x3 + (1 : Int32)) M
set_option maxRecDepth 20000 in
set_option maxHeartbeats 4000000 in
theorem ok_X10_kept_b80 {l : Launch} {g : Gam} {b : Nat} (k14 : Int32 → Int32 → Int32 → Mem → Option (Int32 × Mem)) (hk14 : ∀ (x1 : Int32) (x2 : Int32) (x3 : Int32) (M : Mem) (z : Int32 × Mem), k14 x1 x2 x3 M = some z → V l g (wM b) m_X10_kept 14 [(0, .ref (b + 0)), (1, .int x1), (2, .int x2), (3, .int x3)] [] M (some (.int z.1)) z.2) (x1 : Int32) (x3 : Int32) (s0 : Int32) (M : Mem) (z : Int32 × Mem)  (hf : f_X10_kept_b80 k14 x1 x3 s0 M = some z) : V l g (wM b) m_X10_kept 80 [(0, .ref (b + 0)), (1, .int x1), (3, .int x3)] [.int s0] M (some (.int z.1)) z.2 := by
  unfold f_X10_kept_b80 at hf
  refine V_istore_n (Y := m_X10_kept) (pc := 80) [(2, .int s0), (0, .ref (b + 0)), (1, .int x1), (3, .int x3)] dX10_kept_80 (by decide +kernel) rfl ?_
  refine V_iinc (Y := m_X10_kept) (pc := 81) (y := (x3 + (1 : Int32))) 3 [(3, .int (x3 + (1 : Int32))), (2, .int s0), (0, .ref (b + 0)), (1, .int x1)] dX10_kept_81 rfl rfl (by decide +kernel) rfl ?_
  refine V_goto (Y := m_X10_kept) (pc := 84) (tgt := 14) dX10_kept_84 (by decide +kernel) ?_
  exact V_sub [2, 3, 1, 0] rfl (hk14 x1 s0 (x3 + (1 : Int32)) M z  hf)
def f_X10_kept_b79 (k14 : Int32 → Int32 → Int32 → Mem → Option (Int32 × Mem)) (x1 : Int32) (x2 : Int32) (x3 : Int32) (M : Mem) : Option (Int32 × Mem) :=
  f_X10_kept_b80 k14 x1 x3 x2 M
set_option maxRecDepth 20000 in
set_option maxHeartbeats 4000000 in
theorem ok_X10_kept_b79 {l : Launch} {g : Gam} {b : Nat} (k14 : Int32 → Int32 → Int32 → Mem → Option (Int32 × Mem)) (hk14 : ∀ (x1 : Int32) (x2 : Int32) (x3 : Int32) (M : Mem) (z : Int32 × Mem), k14 x1 x2 x3 M = some z → V l g (wM b) m_X10_kept 14 [(0, .ref (b + 0)), (1, .int x1), (2, .int x2), (3, .int x3)] [] M (some (.int z.1)) z.2) (x1 : Int32) (x2 : Int32) (x3 : Int32) (M : Mem) (z : Int32 × Mem)  (hf : f_X10_kept_b79 k14 x1 x2 x3 M = some z) : V l g (wM b) m_X10_kept 79 [(0, .ref (b + 0)), (1, .int x1), (2, .int x2), (3, .int x3)] [] M (some (.int z.1)) z.2 := by
  unfold f_X10_kept_b79 at hf
  refine V_iload_n (Y := m_X10_kept) (pc := 79) 2 dX10_kept_79 rfl ?_
  exact V_sub [0, 1, 3] rfl (ok_X10_kept_b80 k14 hk14 x1 x3 x2 M z  hf)
def f_X10_kept_b75 (k14 : Int32 → Int32 → Int32 → Mem → Option (Int32 × Mem)) (x1 : Int32) (x3 : Int32) (M : Mem) : Option (Int32 × Mem) :=
  f_X10_kept_b80 k14 x1 x3 x3 M
set_option maxRecDepth 20000 in
set_option maxHeartbeats 4000000 in
theorem ok_X10_kept_b75 {l : Launch} {g : Gam} {b : Nat} (k14 : Int32 → Int32 → Int32 → Mem → Option (Int32 × Mem)) (hk14 : ∀ (x1 : Int32) (x2 : Int32) (x3 : Int32) (M : Mem) (z : Int32 × Mem), k14 x1 x2 x3 M = some z → V l g (wM b) m_X10_kept 14 [(0, .ref (b + 0)), (1, .int x1), (2, .int x2), (3, .int x3)] [] M (some (.int z.1)) z.2) (x1 : Int32) (x3 : Int32) (M : Mem) (z : Int32 × Mem)  (hf : f_X10_kept_b75 k14 x1 x3 M = some z) : V l g (wM b) m_X10_kept 75 [(0, .ref (b + 0)), (1, .int x1), (3, .int x3)] [] M (some (.int z.1)) z.2 := by
  unfold f_X10_kept_b75 at hf
  refine V_iload_n (Y := m_X10_kept) (pc := 75) 2 dX10_kept_75 rfl ?_
  refine V_goto (Y := m_X10_kept) (pc := 76) (tgt := 80) dX10_kept_76 (by decide +kernel) ?_
  exact V_sub [0, 1, 2] rfl (ok_X10_kept_b80 k14 hk14 x1 x3 x3 M z  hf)
def f_X10_kept_b49 (k14 : Int32 → Int32 → Int32 → Mem → Option (Int32 × Mem)) (x1 : Int32) (x2 : Int32) (x3 : Int32) (s0 : Int32) (M : Mem) : Option (Int32 × Mem) :=
  if s0 = 0 then
    f_X10_kept_b79 k14 x1 x2 x3 M
  else
    if x2 < 0 then
      f_X10_kept_b75 k14 x1 x3 M
    else
      (f_X10_field x3 (2 : Int32) M).bind fun q1 =>
      (f_X10_field x2 (2 : Int32) q1.2).bind fun q2 =>
      if q2.1 ≤ q1.1 then
        f_X10_kept_b79 k14 x1 x2 x3 q2.2
      else
        f_X10_kept_b75 k14 x1 x3 q2.2
set_option maxRecDepth 20000 in
set_option maxHeartbeats 4000000 in
theorem ok_X10_kept_b49 {l : Launch} {g : Gam} {b : Nat} (k14 : Int32 → Int32 → Int32 → Mem → Option (Int32 × Mem)) (hk14 : ∀ (x1 : Int32) (x2 : Int32) (x3 : Int32) (M : Mem) (z : Int32 × Mem), k14 x1 x2 x3 M = some z → V l g (wM b) m_X10_kept 14 [(0, .ref (b + 0)), (1, .int x1), (2, .int x2), (3, .int x3)] [] M (some (.int z.1)) z.2) (x1 : Int32) (x2 : Int32) (x3 : Int32) (s0 : Int32) (M : Mem) (z : Int32 × Mem)  (hf : f_X10_kept_b49 k14 x1 x2 x3 s0 M = some z) : V l g (wM b) m_X10_kept 49 [(0, .ref (b + 0)), (1, .int x1), (2, .int x2), (3, .int x3)] [.int s0] M (some (.int z.1)) z.2 := by
  unfold f_X10_kept_b49 at hf
  refine V_istore (Y := m_X10_kept) (pc := 49) [(4, .int s0), (0, .ref (b + 0)), (1, .int x1), (2, .int x2), (3, .int x3)] dX10_kept_49 (by decide +kernel) rfl ?_
  refine V_iload (Y := m_X10_kept) (pc := 51) 0 dX10_kept_51 rfl ?_
  refine V_if_eq (Y := m_X10_kept) (pc := 53) (tgt := 79) dX10_kept_53 (by decide +kernel) hf (fun hf => ?_) (fun hf => ?_)
  · exact V_sub [1, 2, 3, 4] rfl (ok_X10_kept_b79 k14 hk14 x1 x2 x3 M z  hf)
  · refine V_iload_n (Y := m_X10_kept) (pc := 56) 3 dX10_kept_56 rfl ?_
    refine V_if_lt (Y := m_X10_kept) (pc := 57) (tgt := 75) dX10_kept_57 (by decide +kernel) hf (fun hf => ?_) (fun hf => ?_)
    · exact V_sub [1, 2, 4] rfl (ok_X10_kept_b75 k14 hk14 x1 x3 M z  hf)
    · refine V_aload_n (Y := m_X10_kept) (pc := 60) 1 dX10_kept_60 rfl ?_
      refine V_iload_n (Y := m_X10_kept) (pc := 61) 4 dX10_kept_61 rfl ?_
      refine V_iconst (Y := m_X10_kept) (pc := 62) (x := (2 : Int32)) dX10_kept_62 (by decide +kernel) ?_
      obtain ⟨q1, hq1, hf⟩ := g_bind hf
      refine V_cVi (Y := m_X10_kept) (pc := 63) (As := [.int x3, .int (2 : Int32)]) yf_X10_field kX10 sM_0 (by decide +kernel) (ok_X10_field x3 (2 : Int32) M _  hq1) tw_1244 tw_20 tw_1242 rfl rfl (Nat.le_of_ble_eq_true rfl) dX10_kept_63 ?_
      refine V_aload_n (Y := m_X10_kept) (pc := 66) 1 dX10_kept_66 rfl ?_
      refine V_iload_n (Y := m_X10_kept) (pc := 67) 3 dX10_kept_67 rfl ?_
      refine V_iconst (Y := m_X10_kept) (pc := 68) (x := (2 : Int32)) dX10_kept_68 (by decide +kernel) ?_
      obtain ⟨q2, hq2, hf⟩ := g_bind hf
      refine V_cVi (Y := m_X10_kept) (pc := 69) (As := [.int x2, .int (2 : Int32)]) yf_X10_field kX10 sM_0 (by decide +kernel) (ok_X10_field x2 (2 : Int32) q1.2 _  hq2) tw_1244 tw_20 tw_1242 rfl rfl (Nat.le_of_ble_eq_true rfl) dX10_kept_69 ?_
      refine V_icmp_ge (Y := m_X10_kept) (pc := 72) (tgt := 79) dX10_kept_72 (by decide +kernel) hf (fun hf => ?_) (fun hf => ?_)
      · exact V_sub [1, 2, 3, 4] rfl (ok_X10_kept_b79 k14 hk14 x1 x2 x3 q2.2 z  hf)
      · exact V_sub [1, 2, 4] rfl (ok_X10_kept_b75 k14 hk14 x1 x3 q2.2 z  hf)
def f_X10_kept_b48 (k14 : Int32 → Int32 → Int32 → Mem → Option (Int32 × Mem)) (x1 : Int32) (x2 : Int32) (x3 : Int32) (M : Mem) : Option (Int32 × Mem) :=
  f_X10_kept_b49 k14 x1 x2 x3 (0 : Int32) M
set_option maxRecDepth 20000 in
set_option maxHeartbeats 4000000 in
theorem ok_X10_kept_b48 {l : Launch} {g : Gam} {b : Nat} (k14 : Int32 → Int32 → Int32 → Mem → Option (Int32 × Mem)) (hk14 : ∀ (x1 : Int32) (x2 : Int32) (x3 : Int32) (M : Mem) (z : Int32 × Mem), k14 x1 x2 x3 M = some z → V l g (wM b) m_X10_kept 14 [(0, .ref (b + 0)), (1, .int x1), (2, .int x2), (3, .int x3)] [] M (some (.int z.1)) z.2) (x1 : Int32) (x2 : Int32) (x3 : Int32) (M : Mem) (z : Int32 × Mem)  (hf : f_X10_kept_b48 k14 x1 x2 x3 M = some z) : V l g (wM b) m_X10_kept 48 [(0, .ref (b + 0)), (1, .int x1), (2, .int x2), (3, .int x3)] [] M (some (.int z.1)) z.2 := by
  unfold f_X10_kept_b48 at hf
  refine V_iconst (Y := m_X10_kept) (pc := 48) (x := (0 : Int32)) dX10_kept_48 (by decide +kernel) ?_
  exact V_sub [0, 1, 2, 3] rfl (ok_X10_kept_b49 k14 hk14 x1 x2 x3 (0 : Int32) M z  hf)
def f_X10_kept_b14  : Nat → Int32 → Int32 → Int32 → Mem → Option (Int32 × Mem)
  | 0, _, _, _, _ => none
  | n + 1, x1, x2, x3, M =>
    if (M 1 0) ≤ x3 then
      f_X10_kept_b87  x2 M
    else
      (f_X10_field x3 (5 : Int32) M).bind fun q1 =>
      if q1.1 = x1 then
        (f_X10_field x3 (6 : Int32) q1.2).bind fun q2 =>
        if q2.1 < 0 then
          f_X10_kept_b48 (f_X10_kept_b14  n) x1 x2 x3 q2.2
        else
          f_X10_kept_b49 (f_X10_kept_b14  n) x1 x2 x3 (1 : Int32) q2.2
      else
        f_X10_kept_b48 (f_X10_kept_b14  n) x1 x2 x3 q1.2
set_option maxRecDepth 20000 in
set_option maxHeartbeats 4000000 in
theorem ok_X10_kept_b14 {l : Launch} {g : Gam} {b : Nat}   : ∀ (n : Nat) (x1 : Int32) (x2 : Int32) (x3 : Int32) (M : Mem) (z : Int32 × Mem), f_X10_kept_b14  n x1 x2 x3 M = some z → V l g (wM b) m_X10_kept 14 [(0, .ref (b + 0)), (1, .int x1), (2, .int x2), (3, .int x3)] [] M (some (.int z.1)) z.2 := by
  intro n
  induction n with
  | zero =>
    intro x1 x2 x3 M z  hf
    cases hf
  | succ n ih =>
    intro x1 x2 x3 M z  hf
    rw [f_X10_kept_b14] at hf
    refine V_iload_n (Y := m_X10_kept) (pc := 14) 3 dX10_kept_14 rfl ?_
    refine V_aload_n (Y := m_X10_kept) (pc := 15) 0 dX10_kept_15 rfl ?_
    refine V_grL (Y := m_X10_kept) (pc := 16) (x := 1) 0 kX10 sM_0 (by decide +kernel) rfl rfl tw_1070 dX10_kept_16 ?_
    refine V_iconst (Y := m_X10_kept) (pc := 19) (x := (0 : Int32)) dX10_kept_19 (by decide +kernel) ?_
    refine V_ialdL (Y := m_X10_kept) (pc := 20) (j := 0) sM_1 (by decide +kernel) rfl dX10_kept_20 ?_
    refine V_icmp_ge (Y := m_X10_kept) (pc := 21) (tgt := 87) dX10_kept_21 (by decide +kernel) hf (fun hf => ?_) (fun hf => ?_)
    · exact V_sub [0, 2] rfl (ok_X10_kept_b87  x2 M z  hf)
    · refine V_aload_n (Y := m_X10_kept) (pc := 24) 0 dX10_kept_24 rfl ?_
      refine V_iload_n (Y := m_X10_kept) (pc := 25) 3 dX10_kept_25 rfl ?_
      refine V_iconst (Y := m_X10_kept) (pc := 26) (x := (5 : Int32)) dX10_kept_26 (by decide +kernel) ?_
      obtain ⟨q1, hq1, hf⟩ := g_bind hf
      refine V_cVi (Y := m_X10_kept) (pc := 27) (As := [.int x3, .int (5 : Int32)]) yf_X10_field kX10 sM_0 (by decide +kernel) (ok_X10_field x3 (5 : Int32) M _  hq1) tw_1244 tw_20 tw_1242 rfl rfl (Nat.le_of_ble_eq_true rfl) dX10_kept_27 ?_
      refine V_iload_n (Y := m_X10_kept) (pc := 30) 1 dX10_kept_30 rfl ?_
      refine V_icmp_ne (Y := m_X10_kept) (pc := 31) (tgt := 48) dX10_kept_31 (by decide +kernel) hf (fun hf => ?_) (fun hf => ?_)
      · exact V_sub [0, 1, 2, 3] rfl (ok_X10_kept_b48 (f_X10_kept_b14  n) ih x1 x2 x3 q1.2 z  hf)
      · refine V_aload_n (Y := m_X10_kept) (pc := 34) 0 dX10_kept_34 rfl ?_
        refine V_iload_n (Y := m_X10_kept) (pc := 35) 3 dX10_kept_35 rfl ?_
        refine V_bipush (Y := m_X10_kept) (pc := 36) (x := (6 : Int32)) dX10_kept_36 (by decide +kernel) ?_
        obtain ⟨q2, hq2, hf⟩ := g_bind hf
        refine V_cVi (Y := m_X10_kept) (pc := 38) (As := [.int x3, .int (6 : Int32)]) yf_X10_field kX10 sM_0 (by decide +kernel) (ok_X10_field x3 (6 : Int32) q1.2 _  hq2) tw_1244 tw_20 tw_1242 rfl rfl (Nat.le_of_ble_eq_true rfl) dX10_kept_38 ?_
        refine V_if_lt (Y := m_X10_kept) (pc := 41) (tgt := 48) dX10_kept_41 (by decide +kernel) hf (fun hf => ?_) (fun hf => ?_)
        · exact V_sub [0, 1, 2, 3] rfl (ok_X10_kept_b48 (f_X10_kept_b14  n) ih x1 x2 x3 q2.2 z  hf)
        · refine V_iconst (Y := m_X10_kept) (pc := 44) (x := (1 : Int32)) dX10_kept_44 (by decide +kernel) ?_
          refine V_goto (Y := m_X10_kept) (pc := 45) (tgt := 49) dX10_kept_45 (by decide +kernel) ?_
          exact V_sub [0, 1, 2, 3] rfl (ok_X10_kept_b49 (f_X10_kept_b14  n) ih x1 x2 x3 (1 : Int32) q2.2 z  hf)
def f_X10_kept_b0  (x1 : Int32) (M : Mem) : Option (Int32 × Mem) :=
  (f_X10_isCape x1 M).bind fun q1 =>
  if q1.1 = 0 then
    some ((-1000000001 : Int32), q1.2)
  else
    f_X10_kept_b14  FU x1 (-1 : Int32) (0 : Int32) q1.2
set_option maxRecDepth 20000 in
set_option maxHeartbeats 4000000 in
theorem ok_X10_kept_b0 {l : Launch} {g : Gam} {b : Nat}   (x1 : Int32) (M : Mem) (z : Int32 × Mem)  (hf : f_X10_kept_b0 x1 M = some z) : V l g (wM b) m_X10_kept 0 [(0, .ref (b + 0)), (1, .int x1)] [] M (some (.int z.1)) z.2 := by
  unfold f_X10_kept_b0 at hf
  refine V_iload_n (Y := m_X10_kept) (pc := 0) 1 dX10_kept_0 rfl ?_
  obtain ⟨q1, hq1, hf⟩ := g_bind hf
  refine V_cSi (Y := m_X10_kept) (pc := 1) (As := [.int x1]) yf_X10_isCape (by decide +kernel) (ok_X10_isCape x1 M _  hq1) tw_1418 tw_1417 rfl rfl (Nat.le_of_ble_eq_true rfl) dX10_kept_1 ?_
  refine V_if_ne (Y := m_X10_kept) (pc := 4) (tgt := 10) dX10_kept_4 (by decide +kernel) hf (fun hf => ?_) (fun hf => ?_)
  · refine V_iconst (Y := m_X10_kept) (pc := 10) (x := (-1 : Int32)) dX10_kept_10 (by decide +kernel) ?_
    refine V_istore_n (Y := m_X10_kept) (pc := 11) [(2, .int (-1 : Int32)), (0, .ref (b + 0)), (1, .int x1)] dX10_kept_11 (by decide +kernel) rfl ?_
    refine V_iconst (Y := m_X10_kept) (pc := 12) (x := (0 : Int32)) dX10_kept_12 (by decide +kernel) ?_
    refine V_istore_n (Y := m_X10_kept) (pc := 13) [(3, .int (0 : Int32)), (2, .int (-1 : Int32)), (0, .ref (b + 0)), (1, .int x1)] dX10_kept_13 (by decide +kernel) rfl ?_
    exact V_sub [2, 3, 1, 0] rfl (ok_X10_kept_b14  FU x1 (-1 : Int32) (0 : Int32) q1.2 z  hf)
  · refine V_ldc (Y := m_X10_kept) (pc := 7) (x := (-1000000001 : Int32)) dX10_kept_7 tw_1224 ?_
    obtain rfl := Option.some.inj hf
    exact V_iret (Y := m_X10_kept) rfl dX10_kept_9
def f_X10_kept (x1 : Int32) (M : Mem) : Option (Int32 × Mem) := f_X10_kept_b0 x1 M
set_option maxRecDepth 20000 in
set_option maxHeartbeats 4000000 in
theorem ok_X10_kept {l : Launch} {g : Gam} {b : Nat} : ∀ (x1 : Int32) (M : Mem) (z : Int32 × Mem), f_X10_kept x1 M = some z → Cn l g (wM b) m_X10_kept [.ref (b + 0), .int x1] M (some (.int z.1)) z.2 := fun x1 M z  hf => Cn_of (by decide +kernel) (Nat.le_of_ble_eq_true rfl) (V_sub [0, 1] rfl (ok_X10_kept_b0 x1 M z  hf))

abbrev m_X10_set : Mth := (yX10_set, cX10_set, 4, some .int, 3)
theorem yf_X10_set : YF m_X10_set 3 := ⟨tw_1513, tw_75, by decide +kernel, by decide +kernel⟩
def f_X10_set_bc62_1  (x1 : Int32) (x3 : Int32) (M : Mem) : Option (Int32 × Mem) :=
  if ixb (((10 : Int32) + ((3 : Int32) * x1)) + (2 : Int32)) 3300 = true then
  some ((1 : Int32), (mset M 1 (ix (((10 : Int32) + ((3 : Int32) * x1)) + (2 : Int32))) x3))
  else none
set_option maxRecDepth 20000 in
set_option maxHeartbeats 4000000 in
theorem ok_X10_set_bc62_1 {l : Launch} {g : Gam} {b : Nat}   (x1 : Int32) (x3 : Int32) (M : Mem) (z : Int32 × Mem)  (hf : f_X10_set_bc62_1 x1 x3 M = some z) : V l g (wM b) m_X10_set 62 [(0, .ref (b + 0)), (1, .int x1), (3, .int x3)] [] M (some (.int z.1)) z.2 := by
  unfold f_X10_set_bc62_1 at hf
  refine V_aload_n (Y := m_X10_set) (pc := 62) 0 dX10_set_62 rfl ?_
  refine V_grL (Y := m_X10_set) (pc := 63) (x := 1) 0 kX10 sM_0 (by decide +kernel) rfl rfl tw_1070 dX10_set_63 ?_
  refine V_bipush (Y := m_X10_set) (pc := 66) (x := (10 : Int32)) dX10_set_66 (by decide +kernel) ?_
  refine V_iconst (Y := m_X10_set) (pc := 68) (x := (3 : Int32)) dX10_set_68 (by decide +kernel) ?_
  refine V_iload_n (Y := m_X10_set) (pc := 69) 1 dX10_set_69 rfl ?_
  refine V_imul (Y := m_X10_set) (pc := 70) dX10_set_70 ?_
  refine V_iadd (Y := m_X10_set) (pc := 71) dX10_set_71 ?_
  refine V_iconst (Y := m_X10_set) (pc := 72) (x := (2 : Int32)) dX10_set_72 (by decide +kernel) ?_
  refine V_iadd (Y := m_X10_set) (pc := 73) dX10_set_73 ?_
  refine V_iload_n (Y := m_X10_set) (pc := 74) 2 dX10_set_74 rfl ?_
  obtain ⟨hi1, hf⟩ := g_if hf
  refine V_iast (Y := m_X10_set) (pc := 75) sM_1 hi1 dX10_set_75 ?_
  refine V_iconst (Y := m_X10_set) (pc := 76) (x := (1 : Int32)) dX10_set_76 (by decide +kernel) ?_
  obtain rfl := Option.some.inj hf
  exact V_iret (Y := m_X10_set) rfl dX10_set_77
def f_X10_set_b0  (x1 : Int32) (x2 : Int32) (x3 : Int32) (M : Mem) : Option (Int32 × Mem) :=
  (f_X10_isVoyage x1 M).bind fun q1 =>
  if q1.1 = 0 then
    some ((-1000000001 : Int32), q1.2)
  else
    (f_X10_isIn x2.toInt64 (0 : Int64) (99 : Int64) q1.2).bind fun q2 =>
    if q2.1 = 0 then
      some ((-1000000001 : Int32), q2.2)
    else
      (f_X10_isIn x3.toInt64 (-200 : Int64) (200 : Int64) q2.2).bind fun q3 =>
      if q3.1 = 0 then
        some ((-1000000001 : Int32), q3.2)
      else
        if ixb ((10 : Int32) + ((3 : Int32) * x1)) 3300 = true then
        if ixb (((10 : Int32) + ((3 : Int32) * x1)) + (1 : Int32)) 3300 = true then
        f_X10_set_bc62_1  x1 x3 (mset (mset q3.2 1 (ix ((10 : Int32) + ((3 : Int32) * x1))) (1 : Int32)) 1 (ix (((10 : Int32) + ((3 : Int32) * x1)) + (1 : Int32))) x2)
        else none
        else none
set_option maxRecDepth 20000 in
set_option maxHeartbeats 4000000 in
theorem ok_X10_set_b0 {l : Launch} {g : Gam} {b : Nat}   (x1 : Int32) (x2 : Int32) (x3 : Int32) (M : Mem) (z : Int32 × Mem)  (hf : f_X10_set_b0 x1 x2 x3 M = some z) : V l g (wM b) m_X10_set 0 [(0, .ref (b + 0)), (1, .int x1), (2, .int x2), (3, .int x3)] [] M (some (.int z.1)) z.2 := by
  unfold f_X10_set_b0 at hf
  refine V_iload_n (Y := m_X10_set) (pc := 0) 1 dX10_set_0 rfl ?_
  obtain ⟨q1, hq1, hf⟩ := g_bind hf
  refine V_cSi (Y := m_X10_set) (pc := 1) (As := [.int x1]) yf_X10_isVoyage (by decide +kernel) (ok_X10_isVoyage x1 M _  hq1) tw_1411 tw_1410 rfl rfl (Nat.le_of_ble_eq_true rfl) dX10_set_1 ?_
  refine V_if_eq (Y := m_X10_set) (pc := 4) (tgt := 33) dX10_set_4 (by decide +kernel) hf (fun hf => ?_) (fun hf => ?_)
  · refine V_ldc (Y := m_X10_set) (pc := 33) (x := (-1000000001 : Int32)) dX10_set_33 tw_1224 ?_
    obtain rfl := Option.some.inj hf
    exact V_iret (Y := m_X10_set) rfl dX10_set_35
  · refine V_iload_n (Y := m_X10_set) (pc := 7) 2 dX10_set_7 rfl ?_
    refine V_i2l (Y := m_X10_set) (pc := 8) dX10_set_8 ?_
    refine V_lconst (Y := m_X10_set) (pc := 9) (x := (0 : Int64)) dX10_set_9 (by decide +kernel) ?_
    refine V_ldc2 (Y := m_X10_set) (pc := 10) (x := (99 : Int64)) dX10_set_10 tw_1223 ?_
    obtain ⟨q2, hq2, hf⟩ := g_bind hf
    refine V_cSi (Y := m_X10_set) (pc := 13) (As := [.long x2.toInt64, .long (0 : Int64), .long (99 : Int64)]) yf_X10_isIn (by decide +kernel) (ok_X10_isIn x2.toInt64 (0 : Int64) (99 : Int64) q1.2 _  hq2) tw_1218 tw_1217 rfl rfl (Nat.le_of_ble_eq_true rfl) dX10_set_13 ?_
    refine V_if_eq (Y := m_X10_set) (pc := 16) (tgt := 33) dX10_set_16 (by decide +kernel) hf (fun hf => ?_) (fun hf => ?_)
    · refine V_ldc (Y := m_X10_set) (pc := 33) (x := (-1000000001 : Int32)) dX10_set_33 tw_1224 ?_
      obtain rfl := Option.some.inj hf
      exact V_iret (Y := m_X10_set) rfl dX10_set_35
    · refine V_iload_n (Y := m_X10_set) (pc := 19) 3 dX10_set_19 rfl ?_
      refine V_i2l (Y := m_X10_set) (pc := 20) dX10_set_20 ?_
      refine V_ldc2 (Y := m_X10_set) (pc := 21) (x := (-200 : Int64)) dX10_set_21 tw_1514 ?_
      refine V_ldc2 (Y := m_X10_set) (pc := 24) (x := (200 : Int64)) dX10_set_24 tw_1515 ?_
      obtain ⟨q3, hq3, hf⟩ := g_bind hf
      refine V_cSi (Y := m_X10_set) (pc := 27) (As := [.long x3.toInt64, .long (-200 : Int64), .long (200 : Int64)]) yf_X10_isIn (by decide +kernel) (ok_X10_isIn x3.toInt64 (-200 : Int64) (200 : Int64) q2.2 _  hq3) tw_1218 tw_1217 rfl rfl (Nat.le_of_ble_eq_true rfl) dX10_set_27 ?_
      refine V_if_ne (Y := m_X10_set) (pc := 30) (tgt := 36) dX10_set_30 (by decide +kernel) hf (fun hf => ?_) (fun hf => ?_)
      · refine V_aload_n (Y := m_X10_set) (pc := 36) 0 dX10_set_36 rfl ?_
        refine V_grL (Y := m_X10_set) (pc := 37) (x := 1) 0 kX10 sM_0 (by decide +kernel) rfl rfl tw_1070 dX10_set_37 ?_
        refine V_bipush (Y := m_X10_set) (pc := 40) (x := (10 : Int32)) dX10_set_40 (by decide +kernel) ?_
        refine V_iconst (Y := m_X10_set) (pc := 42) (x := (3 : Int32)) dX10_set_42 (by decide +kernel) ?_
        refine V_iload_n (Y := m_X10_set) (pc := 43) 1 dX10_set_43 rfl ?_
        refine V_imul (Y := m_X10_set) (pc := 44) dX10_set_44 ?_
        refine V_iadd (Y := m_X10_set) (pc := 45) dX10_set_45 ?_
        refine V_iconst (Y := m_X10_set) (pc := 46) (x := (1 : Int32)) dX10_set_46 (by decide +kernel) ?_
        obtain ⟨hi4, hf⟩ := g_if hf
        refine V_iast (Y := m_X10_set) (pc := 47) sM_1 hi4 dX10_set_47 ?_
        refine V_aload_n (Y := m_X10_set) (pc := 48) 0 dX10_set_48 rfl ?_
        refine V_grL (Y := m_X10_set) (pc := 49) (x := 1) 0 kX10 sM_0 (by decide +kernel) rfl rfl tw_1070 dX10_set_49 ?_
        refine V_bipush (Y := m_X10_set) (pc := 52) (x := (10 : Int32)) dX10_set_52 (by decide +kernel) ?_
        refine V_iconst (Y := m_X10_set) (pc := 54) (x := (3 : Int32)) dX10_set_54 (by decide +kernel) ?_
        refine V_iload_n (Y := m_X10_set) (pc := 55) 1 dX10_set_55 rfl ?_
        refine V_imul (Y := m_X10_set) (pc := 56) dX10_set_56 ?_
        refine V_iadd (Y := m_X10_set) (pc := 57) dX10_set_57 ?_
        refine V_iconst (Y := m_X10_set) (pc := 58) (x := (1 : Int32)) dX10_set_58 (by decide +kernel) ?_
        refine V_iadd (Y := m_X10_set) (pc := 59) dX10_set_59 ?_
        refine V_iload_n (Y := m_X10_set) (pc := 60) 2 dX10_set_60 rfl ?_
        obtain ⟨hi5, hf⟩ := g_if hf
        refine V_iast (Y := m_X10_set) (pc := 61) sM_1 hi5 dX10_set_61 ?_
        exact V_sub [0, 1, 3] rfl (ok_X10_set_bc62_1  x1 x3 (mset (mset q3.2 1 (ix ((10 : Int32) + ((3 : Int32) * x1))) (1 : Int32)) 1 (ix (((10 : Int32) + ((3 : Int32) * x1)) + (1 : Int32))) x2) z  hf)
      · refine V_ldc (Y := m_X10_set) (pc := 33) (x := (-1000000001 : Int32)) dX10_set_33 tw_1224 ?_
        obtain rfl := Option.some.inj hf
        exact V_iret (Y := m_X10_set) rfl dX10_set_35
def f_X10_set (x1 : Int32) (x2 : Int32) (x3 : Int32) (M : Mem) : Option (Int32 × Mem) := f_X10_set_b0 x1 x2 x3 M
set_option maxRecDepth 20000 in
set_option maxHeartbeats 4000000 in
theorem ok_X10_set {l : Launch} {g : Gam} {b : Nat} : ∀ (x1 : Int32) (x2 : Int32) (x3 : Int32) (M : Mem) (z : Int32 × Mem), f_X10_set x1 x2 x3 M = some z → Cn l g (wM b) m_X10_set [.ref (b + 0), .int x1, .int x2, .int x3] M (some (.int z.1)) z.2 := fun x1 x2 x3 M z  hf => Cn_of (by decide +kernel) (Nat.le_of_ble_eq_true rfl) (V_sub [0, 1, 2, 3] rfl (ok_X10_set_b0 x1 x2 x3 M z  hf))

abbrev m_X10_isFixOf : Mth := (yX10_isFixOf, cX10_isFixOf, 3, some .boolean, 2)
theorem yf_X10_isFixOf : YF m_X10_isFixOf 2 := ⟨tw_1527, tw_75, by decide +kernel, by decide +kernel⟩
def f_X10_isFixOf_b0  (x1 : Int32) (x2 : Int32) (M : Mem) : Option (Int32 × Mem) :=
  (f_X10_field x1 (0 : Int32) M).bind fun q1 =>
  if q1.1 = (3 : Int32) then
    (f_X10_field x1 (1 : Int32) q1.2).bind fun q2 =>
    if q2.1 = x2 then
      some ((1 : Int32), q2.2)
    else
      some ((0 : Int32), q2.2)
  else
    some ((0 : Int32), q1.2)
set_option maxRecDepth 20000 in
set_option maxHeartbeats 4000000 in
theorem ok_X10_isFixOf_b0 {l : Launch} {g : Gam} {b : Nat}   (x1 : Int32) (x2 : Int32) (M : Mem) (z : Int32 × Mem)  (hf : f_X10_isFixOf_b0 x1 x2 M = some z) : V l g (wM b) m_X10_isFixOf 0 [(0, .ref (b + 0)), (1, .int x1), (2, .int x2)] [] M (some (.int z.1)) z.2 := by
  unfold f_X10_isFixOf_b0 at hf
  refine V_aload_n (Y := m_X10_isFixOf) (pc := 0) 0 dX10_isFixOf_0 rfl ?_
  refine V_iload_n (Y := m_X10_isFixOf) (pc := 1) 1 dX10_isFixOf_1 rfl ?_
  refine V_iconst (Y := m_X10_isFixOf) (pc := 2) (x := (0 : Int32)) dX10_isFixOf_2 (by decide +kernel) ?_
  obtain ⟨q1, hq1, hf⟩ := g_bind hf
  refine V_cVi (Y := m_X10_isFixOf) (pc := 3) (As := [.int x1, .int (0 : Int32)]) yf_X10_field kX10 sM_0 (by decide +kernel) (ok_X10_field x1 (0 : Int32) M _  hq1) tw_1244 tw_20 tw_1242 rfl rfl (Nat.le_of_ble_eq_true rfl) dX10_isFixOf_3 ?_
  refine V_iconst (Y := m_X10_isFixOf) (pc := 6) (x := (3 : Int32)) dX10_isFixOf_6 (by decide +kernel) ?_
  refine V_icmp_ne (Y := m_X10_isFixOf) (pc := 7) (tgt := 24) dX10_isFixOf_7 (by decide +kernel) hf (fun hf => ?_) (fun hf => ?_)
  · refine V_iconst (Y := m_X10_isFixOf) (pc := 24) (x := (0 : Int32)) dX10_isFixOf_24 (by decide +kernel) ?_
    obtain rfl := Option.some.inj hf
    exact V_zret (Y := m_X10_isFixOf) z01_0 rfl dX10_isFixOf_25
  · refine V_aload_n (Y := m_X10_isFixOf) (pc := 10) 0 dX10_isFixOf_10 rfl ?_
    refine V_iload_n (Y := m_X10_isFixOf) (pc := 11) 1 dX10_isFixOf_11 rfl ?_
    refine V_iconst (Y := m_X10_isFixOf) (pc := 12) (x := (1 : Int32)) dX10_isFixOf_12 (by decide +kernel) ?_
    obtain ⟨q2, hq2, hf⟩ := g_bind hf
    refine V_cVi (Y := m_X10_isFixOf) (pc := 13) (As := [.int x1, .int (1 : Int32)]) yf_X10_field kX10 sM_0 (by decide +kernel) (ok_X10_field x1 (1 : Int32) q1.2 _  hq2) tw_1244 tw_20 tw_1242 rfl rfl (Nat.le_of_ble_eq_true rfl) dX10_isFixOf_13 ?_
    refine V_iload_n (Y := m_X10_isFixOf) (pc := 16) 2 dX10_isFixOf_16 rfl ?_
    refine V_icmp_ne (Y := m_X10_isFixOf) (pc := 17) (tgt := 24) dX10_isFixOf_17 (by decide +kernel) hf (fun hf => ?_) (fun hf => ?_)
    · refine V_iconst (Y := m_X10_isFixOf) (pc := 24) (x := (0 : Int32)) dX10_isFixOf_24 (by decide +kernel) ?_
      obtain rfl := Option.some.inj hf
      exact V_zret (Y := m_X10_isFixOf) z01_0 rfl dX10_isFixOf_25
    · refine V_iconst (Y := m_X10_isFixOf) (pc := 20) (x := (1 : Int32)) dX10_isFixOf_20 (by decide +kernel) ?_
      refine V_goto (Y := m_X10_isFixOf) (pc := 21) (tgt := 25) dX10_isFixOf_21 (by decide +kernel) ?_
      obtain rfl := Option.some.inj hf
      exact V_zret (Y := m_X10_isFixOf) z01_1 rfl dX10_isFixOf_25
def f_X10_isFixOf (x1 : Int32) (x2 : Int32) (M : Mem) : Option (Int32 × Mem) := f_X10_isFixOf_b0 x1 x2 M
set_option maxRecDepth 20000 in
set_option maxHeartbeats 4000000 in
theorem ok_X10_isFixOf {l : Launch} {g : Gam} {b : Nat} : ∀ (x1 : Int32) (x2 : Int32) (M : Mem) (z : Int32 × Mem), f_X10_isFixOf x1 x2 M = some z → Cn l g (wM b) m_X10_isFixOf [.ref (b + 0), .int x1, .int x2] M (some (.int z.1)) z.2 := fun x1 x2 M z  hf => Cn_of (by decide +kernel) (Nat.le_of_ble_eq_true rfl) (V_sub [0, 1, 2] rfl (ok_X10_isFixOf_b0 x1 x2 M z  hf))

abbrev m_X10_hasFix : Mth := (yX10_hasFix, cX10_hasFix, 5, some .boolean, 3)
theorem yf_X10_hasFix : YF m_X10_hasFix 2 := ⟨tw_1523, tw_75, by decide +kernel, by decide +kernel⟩
def f_X10_hasFix_b46 (k5 : Int32 → Int32 → Int32 → Int32 → Mem → Option (Int32 × Mem)) (x1 : Int32) (x2 : Int32) (x4 : Int32) (s0 : Int32) (M : Mem) : Option (Int32 × Mem) :=
  k5 x1 x2 s0 (x4 + (1 : Int32)) M
set_option maxRecDepth 20000 in
set_option maxHeartbeats 4000000 in
theorem ok_X10_hasFix_b46 {l : Launch} {g : Gam} {b : Nat} (k5 : Int32 → Int32 → Int32 → Int32 → Mem → Option (Int32 × Mem)) (hk5 : ∀ (x1 : Int32) (x2 : Int32) (x3 : Int32) (x4 : Int32) (M : Mem) (z : Int32 × Mem), k5 x1 x2 x3 x4 M = some z → V l g (wM b) m_X10_hasFix 5 [(0, .ref (b + 0)), (1, .int x1), (2, .int x2), (3, .int x3), (4, .int x4)] [] M (some (.int z.1)) z.2) (x1 : Int32) (x2 : Int32) (x4 : Int32) (s0 : Int32) (M : Mem) (z : Int32 × Mem)  (hf : f_X10_hasFix_b46 k5 x1 x2 x4 s0 M = some z) : V l g (wM b) m_X10_hasFix 46 [(0, .ref (b + 0)), (1, .int x1), (2, .int x2), (4, .int x4)] [.int s0] M (some (.int z.1)) z.2 := by
  unfold f_X10_hasFix_b46 at hf
  refine V_istore_n (Y := m_X10_hasFix) (pc := 46) [(3, .int s0), (0, .ref (b + 0)), (1, .int x1), (2, .int x2), (4, .int x4)] dX10_hasFix_46 (by decide +kernel) rfl ?_
  refine V_iinc (Y := m_X10_hasFix) (pc := 47) (y := (x4 + (1 : Int32))) 4 [(4, .int (x4 + (1 : Int32))), (3, .int s0), (0, .ref (b + 0)), (1, .int x1), (2, .int x2)] dX10_hasFix_47 rfl rfl (by decide +kernel) rfl ?_
  refine V_goto (Y := m_X10_hasFix) (pc := 50) (tgt := 5) dX10_hasFix_50 (by decide +kernel) ?_
  exact V_sub [2, 3, 4, 1, 0] rfl (hk5 x1 x2 s0 (x4 + (1 : Int32)) M z  hf)
def f_X10_hasFix_b41 (k5 : Int32 → Int32 → Int32 → Int32 → Mem → Option (Int32 × Mem)) (x1 : Int32) (x2 : Int32) (x4 : Int32) (M : Mem) : Option (Int32 × Mem) :=
  f_X10_hasFix_b46 k5 x1 x2 x4 (1 : Int32) M
set_option maxRecDepth 20000 in
set_option maxHeartbeats 4000000 in
theorem ok_X10_hasFix_b41 {l : Launch} {g : Gam} {b : Nat} (k5 : Int32 → Int32 → Int32 → Int32 → Mem → Option (Int32 × Mem)) (hk5 : ∀ (x1 : Int32) (x2 : Int32) (x3 : Int32) (x4 : Int32) (M : Mem) (z : Int32 × Mem), k5 x1 x2 x3 x4 M = some z → V l g (wM b) m_X10_hasFix 5 [(0, .ref (b + 0)), (1, .int x1), (2, .int x2), (3, .int x3), (4, .int x4)] [] M (some (.int z.1)) z.2) (x1 : Int32) (x2 : Int32) (x4 : Int32) (M : Mem) (z : Int32 × Mem)  (hf : f_X10_hasFix_b41 k5 x1 x2 x4 M = some z) : V l g (wM b) m_X10_hasFix 41 [(0, .ref (b + 0)), (1, .int x1), (2, .int x2), (4, .int x4)] [] M (some (.int z.1)) z.2 := by
  unfold f_X10_hasFix_b41 at hf
  refine V_iconst (Y := m_X10_hasFix) (pc := 41) (x := (1 : Int32)) dX10_hasFix_41 (by decide +kernel) ?_
  refine V_goto (Y := m_X10_hasFix) (pc := 42) (tgt := 46) dX10_hasFix_42 (by decide +kernel) ?_
  exact V_sub [0, 1, 2, 3] rfl (ok_X10_hasFix_b46 k5 hk5 x1 x2 x4 (1 : Int32) M z  hf)
def f_X10_hasFix_b45 (k5 : Int32 → Int32 → Int32 → Int32 → Mem → Option (Int32 × Mem)) (x1 : Int32) (x2 : Int32) (x4 : Int32) (M : Mem) : Option (Int32 × Mem) :=
  f_X10_hasFix_b46 k5 x1 x2 x4 (0 : Int32) M
set_option maxRecDepth 20000 in
set_option maxHeartbeats 4000000 in
theorem ok_X10_hasFix_b45 {l : Launch} {g : Gam} {b : Nat} (k5 : Int32 → Int32 → Int32 → Int32 → Mem → Option (Int32 × Mem)) (hk5 : ∀ (x1 : Int32) (x2 : Int32) (x3 : Int32) (x4 : Int32) (M : Mem) (z : Int32 × Mem), k5 x1 x2 x3 x4 M = some z → V l g (wM b) m_X10_hasFix 5 [(0, .ref (b + 0)), (1, .int x1), (2, .int x2), (3, .int x3), (4, .int x4)] [] M (some (.int z.1)) z.2) (x1 : Int32) (x2 : Int32) (x4 : Int32) (M : Mem) (z : Int32 × Mem)  (hf : f_X10_hasFix_b45 k5 x1 x2 x4 M = some z) : V l g (wM b) m_X10_hasFix 45 [(0, .ref (b + 0)), (1, .int x1), (2, .int x2), (4, .int x4)] [] M (some (.int z.1)) z.2 := by
  unfold f_X10_hasFix_b45 at hf
  refine V_iconst (Y := m_X10_hasFix) (pc := 45) (x := (0 : Int32)) dX10_hasFix_45 (by decide +kernel) ?_
  exact V_sub [0, 1, 2, 3] rfl (ok_X10_hasFix_b46 k5 hk5 x1 x2 x4 (0 : Int32) M z  hf)
def f_X10_hasFix_b5  : Nat → Int32 → Int32 → Int32 → Int32 → Mem → Option (Int32 × Mem)
  | 0, _, _, _, _, _ => none
  | n + 1, x1, x2, x3, x4, M =>
    if (M 1 0) ≤ x4 then
      if z01 x3 = true then some (x3, M) else none
    else
      if x3 = 0 then
        (f_X10_field x4 (5 : Int32) M).bind fun q2 =>
        if q2.1 = x1 then
          (f_X10_isFixOf x4 x2 q2.2).bind fun q3 =>
          if q3.1 = 0 then
            f_X10_hasFix_b45 (f_X10_hasFix_b5  n) x1 x2 x4 q3.2
          else
            f_X10_hasFix_b41 (f_X10_hasFix_b5  n) x1 x2 x4 q3.2
        else
          f_X10_hasFix_b45 (f_X10_hasFix_b5  n) x1 x2 x4 q2.2
      else
        f_X10_hasFix_b41 (f_X10_hasFix_b5  n) x1 x2 x4 M
set_option maxRecDepth 20000 in
set_option maxHeartbeats 4000000 in
theorem ok_X10_hasFix_b5 {l : Launch} {g : Gam} {b : Nat}   : ∀ (n : Nat) (x1 : Int32) (x2 : Int32) (x3 : Int32) (x4 : Int32) (M : Mem) (z : Int32 × Mem), f_X10_hasFix_b5  n x1 x2 x3 x4 M = some z → V l g (wM b) m_X10_hasFix 5 [(0, .ref (b + 0)), (1, .int x1), (2, .int x2), (3, .int x3), (4, .int x4)] [] M (some (.int z.1)) z.2 := by
  intro n
  induction n with
  | zero =>
    intro x1 x2 x3 x4 M z  hf
    cases hf
  | succ n ih =>
    intro x1 x2 x3 x4 M z  hf
    rw [f_X10_hasFix_b5] at hf
    refine V_iload (Y := m_X10_hasFix) (pc := 5) 4 dX10_hasFix_5 rfl ?_
    refine V_aload_n (Y := m_X10_hasFix) (pc := 7) 0 dX10_hasFix_7 rfl ?_
    refine V_grL (Y := m_X10_hasFix) (pc := 8) (x := 1) 0 kX10 sM_0 (by decide +kernel) rfl rfl tw_1070 dX10_hasFix_8 ?_
    refine V_iconst (Y := m_X10_hasFix) (pc := 11) (x := (0 : Int32)) dX10_hasFix_11 (by decide +kernel) ?_
    refine V_ialdL (Y := m_X10_hasFix) (pc := 12) (j := 0) sM_1 (by decide +kernel) rfl dX10_hasFix_12 ?_
    refine V_icmp_ge (Y := m_X10_hasFix) (pc := 13) (tgt := 53) dX10_hasFix_13 (by decide +kernel) hf (fun hf => ?_) (fun hf => ?_)
    · refine V_iload_n (Y := m_X10_hasFix) (pc := 53) 3 dX10_hasFix_53 rfl ?_
      obtain ⟨hz1, hf⟩ := g_if hf
      obtain rfl := Option.some.inj hf
      exact V_zret (Y := m_X10_hasFix) hz1 rfl dX10_hasFix_54
    · refine V_iload_n (Y := m_X10_hasFix) (pc := 16) 3 dX10_hasFix_16 rfl ?_
      refine V_if_ne (Y := m_X10_hasFix) (pc := 17) (tgt := 41) dX10_hasFix_17 (by decide +kernel) hf (fun hf => ?_) (fun hf => ?_)
      · exact V_sub [0, 1, 2, 4] rfl (ok_X10_hasFix_b41 (f_X10_hasFix_b5  n) ih x1 x2 x4 M z  hf)
      · refine V_aload_n (Y := m_X10_hasFix) (pc := 20) 0 dX10_hasFix_20 rfl ?_
        refine V_iload (Y := m_X10_hasFix) (pc := 21) 4 dX10_hasFix_21 rfl ?_
        refine V_iconst (Y := m_X10_hasFix) (pc := 23) (x := (5 : Int32)) dX10_hasFix_23 (by decide +kernel) ?_
        obtain ⟨q2, hq2, hf⟩ := g_bind hf
        refine V_cVi (Y := m_X10_hasFix) (pc := 24) (As := [.int x4, .int (5 : Int32)]) yf_X10_field kX10 sM_0 (by decide +kernel) (ok_X10_field x4 (5 : Int32) M _  hq2) tw_1244 tw_20 tw_1242 rfl rfl (Nat.le_of_ble_eq_true rfl) dX10_hasFix_24 ?_
        refine V_iload_n (Y := m_X10_hasFix) (pc := 27) 1 dX10_hasFix_27 rfl ?_
        refine V_icmp_ne (Y := m_X10_hasFix) (pc := 28) (tgt := 45) dX10_hasFix_28 (by decide +kernel) hf (fun hf => ?_) (fun hf => ?_)
        · exact V_sub [0, 1, 2, 4] rfl (ok_X10_hasFix_b45 (f_X10_hasFix_b5  n) ih x1 x2 x4 q2.2 z  hf)
        · refine V_aload_n (Y := m_X10_hasFix) (pc := 31) 0 dX10_hasFix_31 rfl ?_
          refine V_iload (Y := m_X10_hasFix) (pc := 32) 4 dX10_hasFix_32 rfl ?_
          refine V_iload_n (Y := m_X10_hasFix) (pc := 34) 2 dX10_hasFix_34 rfl ?_
          obtain ⟨q3, hq3, hf⟩ := g_bind hf
          refine V_cVi (Y := m_X10_hasFix) (pc := 35) (As := [.int x4, .int x2]) yf_X10_isFixOf kX10 sM_0 (by decide +kernel) (ok_X10_isFixOf x4 x2 q2.2 _  hq3) tw_1526 tw_56 tw_1524 rfl rfl (Nat.le_of_ble_eq_true rfl) dX10_hasFix_35 ?_
          refine V_if_eq (Y := m_X10_hasFix) (pc := 38) (tgt := 45) dX10_hasFix_38 (by decide +kernel) hf (fun hf => ?_) (fun hf => ?_)
          · exact V_sub [0, 1, 2, 4] rfl (ok_X10_hasFix_b45 (f_X10_hasFix_b5  n) ih x1 x2 x4 q3.2 z  hf)
          · exact V_sub [0, 1, 2, 4] rfl (ok_X10_hasFix_b41 (f_X10_hasFix_b5  n) ih x1 x2 x4 q3.2 z  hf)
def f_X10_hasFix_b0  (x1 : Int32) (x2 : Int32) (M : Mem) : Option (Int32 × Mem) :=
  f_X10_hasFix_b5  FU x1 x2 (0 : Int32) (0 : Int32) M
set_option maxRecDepth 20000 in
set_option maxHeartbeats 4000000 in
theorem ok_X10_hasFix_b0 {l : Launch} {g : Gam} {b : Nat}   (x1 : Int32) (x2 : Int32) (M : Mem) (z : Int32 × Mem)  (hf : f_X10_hasFix_b0 x1 x2 M = some z) : V l g (wM b) m_X10_hasFix 0 [(0, .ref (b + 0)), (1, .int x1), (2, .int x2)] [] M (some (.int z.1)) z.2 := by
  unfold f_X10_hasFix_b0 at hf
  refine V_iconst (Y := m_X10_hasFix) (pc := 0) (x := (0 : Int32)) dX10_hasFix_0 (by decide +kernel) ?_
  refine V_istore_n (Y := m_X10_hasFix) (pc := 1) [(3, .int (0 : Int32)), (0, .ref (b + 0)), (1, .int x1), (2, .int x2)] dX10_hasFix_1 (by decide +kernel) rfl ?_
  refine V_iconst (Y := m_X10_hasFix) (pc := 2) (x := (0 : Int32)) dX10_hasFix_2 (by decide +kernel) ?_
  refine V_istore (Y := m_X10_hasFix) (pc := 3) [(4, .int (0 : Int32)), (3, .int (0 : Int32)), (0, .ref (b + 0)), (1, .int x1), (2, .int x2)] dX10_hasFix_3 (by decide +kernel) rfl ?_
  exact V_sub [2, 3, 4, 1, 0] rfl (ok_X10_hasFix_b5  FU x1 x2 (0 : Int32) (0 : Int32) M z  hf)
def f_X10_hasFix (x1 : Int32) (x2 : Int32) (M : Mem) : Option (Int32 × Mem) := f_X10_hasFix_b0 x1 x2 M
set_option maxRecDepth 20000 in
set_option maxHeartbeats 4000000 in
theorem ok_X10_hasFix {l : Launch} {g : Gam} {b : Nat} : ∀ (x1 : Int32) (x2 : Int32) (M : Mem) (z : Int32 × Mem), f_X10_hasFix x1 x2 M = some z → Cn l g (wM b) m_X10_hasFix [.ref (b + 0), .int x1, .int x2] M (some (.int z.1)) z.2 := fun x1 x2 M z  hf => Cn_of (by decide +kernel) (Nat.le_of_ble_eq_true rfl) (V_sub [0, 1, 2] rfl (ok_X10_hasFix_b0 x1 x2 M z  hf))

abbrev m_X10_wouldHold : Mth := (yX10_wouldHold, cX10_wouldHold, 10, some .boolean, 3)
theorem yf_X10_wouldHold : YF m_X10_wouldHold 4 := ⟨tw_1531, tw_75, by decide +kernel, by decide +kernel⟩
def f_X10_wouldHold_b157  (x5 : Int32) (x6 : Int32) (M : Mem) : Option (Int32 × Mem) :=
  if x6 < x5 then
    some ((0 : Int32), M)
  else
    some ((1 : Int32), M)
set_option maxRecDepth 20000 in
set_option maxHeartbeats 4000000 in
theorem ok_X10_wouldHold_b157 {l : Launch} {g : Gam} {b : Nat}   (x5 : Int32) (x6 : Int32) (M : Mem) (z : Int32 × Mem)  (hf : f_X10_wouldHold_b157 x5 x6 M = some z) : V l g (wM b) m_X10_wouldHold 157 [(5, .int x5), (6, .int x6)] [] M (some (.int z.1)) z.2 := by
  unfold f_X10_wouldHold_b157 at hf
  refine V_iload (Y := m_X10_wouldHold) (pc := 157) 0 dX10_wouldHold_157 rfl ?_
  refine V_iload (Y := m_X10_wouldHold) (pc := 159) 1 dX10_wouldHold_159 rfl ?_
  refine V_icmp_gt (Y := m_X10_wouldHold) (pc := 161) (tgt := 168) dX10_wouldHold_161 (by decide +kernel) hf (fun hf => ?_) (fun hf => ?_)
  · refine V_iconst (Y := m_X10_wouldHold) (pc := 168) (x := (0 : Int32)) dX10_wouldHold_168 (by decide +kernel) ?_
    obtain rfl := Option.some.inj hf
    exact V_zret (Y := m_X10_wouldHold) z01_0 rfl dX10_wouldHold_169
  · refine V_iconst (Y := m_X10_wouldHold) (pc := 164) (x := (1 : Int32)) dX10_wouldHold_164 (by decide +kernel) ?_
    refine V_goto (Y := m_X10_wouldHold) (pc := 165) (tgt := 169) dX10_wouldHold_165 (by decide +kernel) ?_
    obtain rfl := Option.some.inj hf
    exact V_zret (Y := m_X10_wouldHold) z01_1 rfl dX10_wouldHold_169
def f_X10_wouldHold_b151 (k13 : Int32 → Int32 → Int32 → Int32 → Int32 → Int32 → Int32 → Mem → Option (Int32 × Mem)) (x1 : Int32) (x2 : Int32) (x3 : Int32) (x4 : Int32) (x5 : Int32) (x6 : Int32) (x7 : Int32) (M : Mem) : Option (Int32 × Mem) :=
  k13 x1 x2 x3 x4 x5 x6 (x7 + (1 : Int32)) M
set_option maxRecDepth 20000 in
set_option maxHeartbeats 4000000 in
theorem ok_X10_wouldHold_b151 {l : Launch} {g : Gam} {b : Nat} (k13 : Int32 → Int32 → Int32 → Int32 → Int32 → Int32 → Int32 → Mem → Option (Int32 × Mem)) (hk13 : ∀ (x1 : Int32) (x2 : Int32) (x3 : Int32) (x4 : Int32) (x5 : Int32) (x6 : Int32) (x7 : Int32) (M : Mem) (z : Int32 × Mem), k13 x1 x2 x3 x4 x5 x6 x7 M = some z → V l g (wM b) m_X10_wouldHold 13 [(0, .ref (b + 0)), (1, .int x1), (2, .int x2), (3, .int x3), (4, .int x4), (5, .int x5), (6, .int x6), (7, .int x7)] [] M (some (.int z.1)) z.2) (x1 : Int32) (x2 : Int32) (x3 : Int32) (x4 : Int32) (x5 : Int32) (x6 : Int32) (x7 : Int32) (M : Mem) (z : Int32 × Mem)  (hf : f_X10_wouldHold_b151 k13 x1 x2 x3 x4 x5 x6 x7 M = some z) : V l g (wM b) m_X10_wouldHold 151 [(0, .ref (b + 0)), (1, .int x1), (2, .int x2), (3, .int x3), (4, .int x4), (5, .int x5), (6, .int x6), (7, .int x7)] [] M (some (.int z.1)) z.2 := by
  unfold f_X10_wouldHold_b151 at hf
  refine V_iinc (Y := m_X10_wouldHold) (pc := 151) (y := (x7 + (1 : Int32))) 7 [(7, .int (x7 + (1 : Int32))), (0, .ref (b + 0)), (1, .int x1), (2, .int x2), (3, .int x3), (4, .int x4), (5, .int x5), (6, .int x6)] dX10_wouldHold_151 rfl rfl (by decide +kernel) rfl ?_
  refine V_goto (Y := m_X10_wouldHold) (pc := 154) (tgt := 13) dX10_wouldHold_154 (by decide +kernel) ?_
  exact V_sub [1, 2, 3, 4, 5, 6, 7, 0] rfl (hk13 x1 x2 x3 x4 x5 x6 (x7 + (1 : Int32)) M z  hf)
def f_X10_wouldHold_b133 (k13 : Int32 → Int32 → Int32 → Int32 → Int32 → Int32 → Int32 → Mem → Option (Int32 × Mem)) (x1 : Int32) (x2 : Int32) (x3 : Int32) (x4 : Int32) (x6 : Int32) (x7 : Int32) (x9 : Int32) (s0 : Int32) (M : Mem) : Option (Int32 × Mem) :=
  (f_X10_spanOf x7 M).bind fun q1 =>
  (f_X10_least x6 (x9 + q1.1) q1.2).bind fun q2 =>
  f_X10_wouldHold_b151 k13 x1 x2 x3 x4 s0 q2.1 x7 q2.2
set_option maxRecDepth 20000 in
set_option maxHeartbeats 4000000 in
theorem ok_X10_wouldHold_b133 {l : Launch} {g : Gam} {b : Nat} (k13 : Int32 → Int32 → Int32 → Int32 → Int32 → Int32 → Int32 → Mem → Option (Int32 × Mem)) (hk13 : ∀ (x1 : Int32) (x2 : Int32) (x3 : Int32) (x4 : Int32) (x5 : Int32) (x6 : Int32) (x7 : Int32) (M : Mem) (z : Int32 × Mem), k13 x1 x2 x3 x4 x5 x6 x7 M = some z → V l g (wM b) m_X10_wouldHold 13 [(0, .ref (b + 0)), (1, .int x1), (2, .int x2), (3, .int x3), (4, .int x4), (5, .int x5), (6, .int x6), (7, .int x7)] [] M (some (.int z.1)) z.2) (x1 : Int32) (x2 : Int32) (x3 : Int32) (x4 : Int32) (x6 : Int32) (x7 : Int32) (x9 : Int32) (s0 : Int32) (M : Mem) (z : Int32 × Mem)  (hf : f_X10_wouldHold_b133 k13 x1 x2 x3 x4 x6 x7 x9 s0 M = some z) : V l g (wM b) m_X10_wouldHold 133 [(0, .ref (b + 0)), (1, .int x1), (2, .int x2), (3, .int x3), (4, .int x4), (6, .int x6), (7, .int x7), (9, .int x9)] [.int s0] M (some (.int z.1)) z.2 := by
  unfold f_X10_wouldHold_b133 at hf
  refine V_istore (Y := m_X10_wouldHold) (pc := 133) [(5, .int s0), (0, .ref (b + 0)), (1, .int x1), (2, .int x2), (3, .int x3), (4, .int x4), (6, .int x6), (7, .int x7), (9, .int x9)] dX10_wouldHold_133 (by decide +kernel) rfl ?_
  refine V_iload (Y := m_X10_wouldHold) (pc := 135) 6 dX10_wouldHold_135 rfl ?_
  refine V_iload (Y := m_X10_wouldHold) (pc := 137) 8 dX10_wouldHold_137 rfl ?_
  refine V_aload_n (Y := m_X10_wouldHold) (pc := 139) 1 dX10_wouldHold_139 rfl ?_
  refine V_iload (Y := m_X10_wouldHold) (pc := 140) 7 dX10_wouldHold_140 rfl ?_
  obtain ⟨q1, hq1, hf⟩ := g_bind hf
  refine V_cVi (Y := m_X10_wouldHold) (pc := 142) (As := [.int x7]) yf_X10_spanOf kX10 sM_0 (by decide +kernel) (ok_X10_spanOf x7 M _  hq1) tw_1290 tw_29 tw_1288 rfl rfl (Nat.le_of_ble_eq_true rfl) dX10_wouldHold_142 ?_
  refine V_iadd (Y := m_X10_wouldHold) (pc := 145) dX10_wouldHold_145 ?_
  obtain ⟨q2, hq2, hf⟩ := g_bind hf
  refine V_cSi (Y := m_X10_wouldHold) (pc := 146) (As := [.int x6, .int (x9 + q1.1)]) yf_X10_least (by decide +kernel) (ok_X10_least x6 (x9 + q1.1) q1.2 _  hq2) tw_1427 tw_1426 rfl rfl (Nat.le_of_ble_eq_true rfl) dX10_wouldHold_146 ?_
  refine V_istore (Y := m_X10_wouldHold) (pc := 149) [(6, .int q2.1), (5, .int s0), (0, .ref (b + 0)), (1, .int x1), (2, .int x2), (3, .int x3), (4, .int x4), (7, .int x7), (9, .int x9)] dX10_wouldHold_149 (by decide +kernel) rfl ?_
  exact V_sub [2, 3, 4, 5, 6, 1, 0, 7] rfl (ok_X10_wouldHold_b151 k13 hk13 x1 x2 x3 x4 s0 q2.1 x7 q2.2 z  hf)
def f_X10_wouldHold_b103 (k13 : Int32 → Int32 → Int32 → Int32 → Int32 → Int32 → Int32 → Mem → Option (Int32 × Mem)) (x1 : Int32) (x2 : Int32) (x3 : Int32) (x4 : Int32) (x5 : Int32) (x6 : Int32) (x7 : Int32) (s0 : Int32) (M : Mem) : Option (Int32 × Mem) :=
  (f_X10_spanOf x7 M).bind fun q1 =>
  if (s0 - q1.1) ≤ x5 then
    f_X10_wouldHold_b133 k13 x1 x2 x3 x4 x6 x7 s0 x5 q1.2
  else
    (f_X10_spanOf x7 q1.2).bind fun q2 =>
    f_X10_wouldHold_b133 k13 x1 x2 x3 x4 x6 x7 s0 (s0 - q2.1) q2.2
set_option maxRecDepth 20000 in
set_option maxHeartbeats 4000000 in
theorem ok_X10_wouldHold_b103 {l : Launch} {g : Gam} {b : Nat} (k13 : Int32 → Int32 → Int32 → Int32 → Int32 → Int32 → Int32 → Mem → Option (Int32 × Mem)) (hk13 : ∀ (x1 : Int32) (x2 : Int32) (x3 : Int32) (x4 : Int32) (x5 : Int32) (x6 : Int32) (x7 : Int32) (M : Mem) (z : Int32 × Mem), k13 x1 x2 x3 x4 x5 x6 x7 M = some z → V l g (wM b) m_X10_wouldHold 13 [(0, .ref (b + 0)), (1, .int x1), (2, .int x2), (3, .int x3), (4, .int x4), (5, .int x5), (6, .int x6), (7, .int x7)] [] M (some (.int z.1)) z.2) (x1 : Int32) (x2 : Int32) (x3 : Int32) (x4 : Int32) (x5 : Int32) (x6 : Int32) (x7 : Int32) (s0 : Int32) (M : Mem) (z : Int32 × Mem)  (hf : f_X10_wouldHold_b103 k13 x1 x2 x3 x4 x5 x6 x7 s0 M = some z) : V l g (wM b) m_X10_wouldHold 103 [(0, .ref (b + 0)), (1, .int x1), (2, .int x2), (3, .int x3), (4, .int x4), (5, .int x5), (6, .int x6), (7, .int x7)] [.int s0] M (some (.int z.1)) z.2 := by
  unfold f_X10_wouldHold_b103 at hf
  refine V_istore (Y := m_X10_wouldHold) (pc := 103) [(9, .int s0), (0, .ref (b + 0)), (1, .int x1), (2, .int x2), (3, .int x3), (4, .int x4), (5, .int x5), (6, .int x6), (7, .int x7)] dX10_wouldHold_103 (by decide +kernel) rfl ?_
  refine V_iload (Y := m_X10_wouldHold) (pc := 105) 0 dX10_wouldHold_105 rfl ?_
  refine V_aload_n (Y := m_X10_wouldHold) (pc := 107) 1 dX10_wouldHold_107 rfl ?_
  refine V_iload (Y := m_X10_wouldHold) (pc := 108) 8 dX10_wouldHold_108 rfl ?_
  obtain ⟨q1, hq1, hf⟩ := g_bind hf
  refine V_cVi (Y := m_X10_wouldHold) (pc := 110) (As := [.int x7]) yf_X10_spanOf kX10 sM_0 (by decide +kernel) (ok_X10_spanOf x7 M _  hq1) tw_1290 tw_29 tw_1288 rfl rfl (Nat.le_of_ble_eq_true rfl) dX10_wouldHold_110 ?_
  refine V_isub (Y := m_X10_wouldHold) (pc := 113) dX10_wouldHold_113 ?_
  refine V_iload (Y := m_X10_wouldHold) (pc := 114) 6 dX10_wouldHold_114 rfl ?_
  refine V_icmp_le (Y := m_X10_wouldHold) (pc := 116) (tgt := 131) dX10_wouldHold_116 (by decide +kernel) hf (fun hf => ?_) (fun hf => ?_)
  · refine V_iload (Y := m_X10_wouldHold) (pc := 131) 6 dX10_wouldHold_131 rfl ?_
    exact V_sub [1, 2, 3, 4, 5, 7, 8, 0] rfl (ok_X10_wouldHold_b133 k13 hk13 x1 x2 x3 x4 x6 x7 s0 x5 q1.2 z  hf)
  · refine V_iload (Y := m_X10_wouldHold) (pc := 119) 0 dX10_wouldHold_119 rfl ?_
    refine V_aload_n (Y := m_X10_wouldHold) (pc := 121) 1 dX10_wouldHold_121 rfl ?_
    refine V_iload (Y := m_X10_wouldHold) (pc := 122) 8 dX10_wouldHold_122 rfl ?_
    obtain ⟨q2, hq2, hf⟩ := g_bind hf
    refine V_cVi (Y := m_X10_wouldHold) (pc := 124) (As := [.int x7]) yf_X10_spanOf kX10 sM_0 (by decide +kernel) (ok_X10_spanOf x7 q1.2 _  hq2) tw_1290 tw_29 tw_1288 rfl rfl (Nat.le_of_ble_eq_true rfl) dX10_wouldHold_124 ?_
    refine V_isub (Y := m_X10_wouldHold) (pc := 127) dX10_wouldHold_127 ?_
    refine V_goto (Y := m_X10_wouldHold) (pc := 128) (tgt := 133) dX10_wouldHold_128 (by decide +kernel) ?_
    exact V_sub [1, 2, 3, 4, 5, 7, 8, 0] rfl (ok_X10_wouldHold_b133 k13 hk13 x1 x2 x3 x4 x6 x7 s0 (s0 - q2.1) q2.2 z  hf)
def f_X10_wouldHold_b52 (k13 : Int32 → Int32 → Int32 → Int32 → Int32 → Int32 → Int32 → Mem → Option (Int32 × Mem)) (x1 : Int32) (x2 : Int32) (x3 : Int32) (x4 : Int32) (x5 : Int32) (x6 : Int32) (x7 : Int32) (s0 : Int32) (M : Mem) : Option (Int32 × Mem) :=
  (f_X10_isFixOf x7 x2 M).bind fun q1 =>
  if q1.1 = 0 then
    if ixb x7 24 = true then
    f_X10_wouldHold_b103 k13 x1 x2 x3 x4 x5 x6 x7 (q1.2 18 (ix x7)) q1.2
    else none
  else
    (f_X10_field x7 (3 : Int32) q1.2).bind fun q3 =>
    if ixb x7 24 = true then
    (f_X10_heldIn ((q3.2 19 (ix x7)).toInt64 + s0.toInt64) (-200 : Int32) (200 : Int32) q3.2).bind fun q5 =>
    f_X10_wouldHold_b103 k13 x1 x2 x3 x4 x5 x6 x7 (q3.1 + q5.1) q5.2
    else none
set_option maxRecDepth 20000 in
set_option maxHeartbeats 4000000 in
theorem ok_X10_wouldHold_b52 {l : Launch} {g : Gam} {b : Nat} (k13 : Int32 → Int32 → Int32 → Int32 → Int32 → Int32 → Int32 → Mem → Option (Int32 × Mem)) (hk13 : ∀ (x1 : Int32) (x2 : Int32) (x3 : Int32) (x4 : Int32) (x5 : Int32) (x6 : Int32) (x7 : Int32) (M : Mem) (z : Int32 × Mem), k13 x1 x2 x3 x4 x5 x6 x7 M = some z → V l g (wM b) m_X10_wouldHold 13 [(0, .ref (b + 0)), (1, .int x1), (2, .int x2), (3, .int x3), (4, .int x4), (5, .int x5), (6, .int x6), (7, .int x7)] [] M (some (.int z.1)) z.2) (x1 : Int32) (x2 : Int32) (x3 : Int32) (x4 : Int32) (x5 : Int32) (x6 : Int32) (x7 : Int32) (s0 : Int32) (M : Mem) (z : Int32 × Mem)  (hf : f_X10_wouldHold_b52 k13 x1 x2 x3 x4 x5 x6 x7 s0 M = some z) : V l g (wM b) m_X10_wouldHold 52 [(0, .ref (b + 0)), (1, .int x1), (2, .int x2), (3, .int x3), (4, .int x4), (5, .int x5), (6, .int x6), (7, .int x7)] [.int s0] M (some (.int z.1)) z.2 := by
  unfold f_X10_wouldHold_b52 at hf
  refine V_istore (Y := m_X10_wouldHold) (pc := 52) [(8, .int s0), (0, .ref (b + 0)), (1, .int x1), (2, .int x2), (3, .int x3), (4, .int x4), (5, .int x5), (6, .int x6), (7, .int x7)] dX10_wouldHold_52 (by decide +kernel) rfl ?_
  refine V_aload_n (Y := m_X10_wouldHold) (pc := 54) 1 dX10_wouldHold_54 rfl ?_
  refine V_iload (Y := m_X10_wouldHold) (pc := 55) 8 dX10_wouldHold_55 rfl ?_
  refine V_iload_n (Y := m_X10_wouldHold) (pc := 57) 3 dX10_wouldHold_57 rfl ?_
  obtain ⟨q1, hq1, hf⟩ := g_bind hf
  refine V_cVi (Y := m_X10_wouldHold) (pc := 58) (As := [.int x7, .int x2]) yf_X10_isFixOf kX10 sM_0 (by decide +kernel) (ok_X10_isFixOf x7 x2 M _  hq1) tw_1526 tw_56 tw_1524 rfl rfl (Nat.le_of_ble_eq_true rfl) dX10_wouldHold_58 ?_
  refine V_if_eq (Y := m_X10_wouldHold) (pc := 61) (tgt := 96) dX10_wouldHold_61 (by decide +kernel) hf (fun hf => ?_) (fun hf => ?_)
  · refine V_aload_n (Y := m_X10_wouldHold) (pc := 96) 1 dX10_wouldHold_96 rfl ?_
    refine V_grL (Y := m_X10_wouldHold) (pc := 97) (x := 18) 38 kX10 sM_0 (by decide +kernel) rfl rfl tw_1108 dX10_wouldHold_97 ?_
    refine V_iload (Y := m_X10_wouldHold) (pc := 100) 8 dX10_wouldHold_100 rfl ?_
    obtain ⟨hi2, hf⟩ := g_if hf
    refine V_iald (Y := m_X10_wouldHold) (pc := 102) sM_18 hi2 dX10_wouldHold_102 ?_
    exact V_sub [1, 2, 3, 4, 5, 6, 7, 8] rfl (ok_X10_wouldHold_b103 k13 hk13 x1 x2 x3 x4 x5 x6 x7 (q1.2 18 (ix x7)) q1.2 z  hf)
  · refine V_aload_n (Y := m_X10_wouldHold) (pc := 64) 1 dX10_wouldHold_64 rfl ?_
    refine V_iload (Y := m_X10_wouldHold) (pc := 65) 8 dX10_wouldHold_65 rfl ?_
    refine V_iconst (Y := m_X10_wouldHold) (pc := 67) (x := (3 : Int32)) dX10_wouldHold_67 (by decide +kernel) ?_
    obtain ⟨q3, hq3, hf⟩ := g_bind hf
    refine V_cVi (Y := m_X10_wouldHold) (pc := 68) (As := [.int x7, .int (3 : Int32)]) yf_X10_field kX10 sM_0 (by decide +kernel) (ok_X10_field x7 (3 : Int32) q1.2 _  hq3) tw_1244 tw_20 tw_1242 rfl rfl (Nat.le_of_ble_eq_true rfl) dX10_wouldHold_68 ?_
    refine V_aload_n (Y := m_X10_wouldHold) (pc := 71) 1 dX10_wouldHold_71 rfl ?_
    refine V_grL (Y := m_X10_wouldHold) (pc := 72) (x := 19) 39 kX10 sM_0 (by decide +kernel) rfl rfl tw_1109 dX10_wouldHold_72 ?_
    refine V_iload (Y := m_X10_wouldHold) (pc := 75) 8 dX10_wouldHold_75 rfl ?_
    obtain ⟨hi4, hf⟩ := g_if hf
    refine V_iald (Y := m_X10_wouldHold) (pc := 77) sM_19 hi4 dX10_wouldHold_77 ?_
    refine V_i2l (Y := m_X10_wouldHold) (pc := 78) dX10_wouldHold_78 ?_
    refine V_iload (Y := m_X10_wouldHold) (pc := 79) 0 dX10_wouldHold_79 rfl ?_
    refine V_i2l (Y := m_X10_wouldHold) (pc := 81) dX10_wouldHold_81 ?_
    refine V_ladd (Y := m_X10_wouldHold) (pc := 82) dX10_wouldHold_82 ?_
    refine V_sipush (Y := m_X10_wouldHold) (pc := 83) (x := (-200 : Int32)) dX10_wouldHold_83 (by decide +kernel) ?_
    refine V_sipush (Y := m_X10_wouldHold) (pc := 86) (x := (200 : Int32)) dX10_wouldHold_86 (by decide +kernel) ?_
    obtain ⟨q5, hq5, hf⟩ := g_bind hf
    refine V_cSi (Y := m_X10_wouldHold) (pc := 89) (As := [.long ((q3.2 19 (ix x7)).toInt64 + s0.toInt64), .int (-200 : Int32), .int (200 : Int32)]) yf_X10_heldIn (by decide +kernel) (ok_X10_heldIn ((q3.2 19 (ix x7)).toInt64 + s0.toInt64) (-200 : Int32) (200 : Int32) q3.2 _  hq5) tw_1278 tw_1277 rfl rfl (Nat.le_of_ble_eq_true rfl) dX10_wouldHold_89 ?_
    refine V_iadd (Y := m_X10_wouldHold) (pc := 92) dX10_wouldHold_92 ?_
    refine V_goto (Y := m_X10_wouldHold) (pc := 93) (tgt := 103) dX10_wouldHold_93 (by decide +kernel) ?_
    exact V_sub [1, 2, 3, 4, 5, 6, 7, 8] rfl (ok_X10_wouldHold_b103 k13 hk13 x1 x2 x3 x4 x5 x6 x7 (q3.1 + q5.1) q5.2 z  hf)
def f_X10_wouldHold_b13  : Nat → Int32 → Int32 → Int32 → Int32 → Int32 → Int32 → Int32 → Mem → Option (Int32 × Mem)
  | 0, _, _, _, _, _, _, _, _ => none
  | n + 1, x1, x2, x3, x4, x5, x6, x7, M =>
    if (M 1 0) ≤ x7 then
      f_X10_wouldHold_b157  x5 x6 M
    else
      (f_X10_field x7 (5 : Int32) M).bind fun q1 =>
      if q1.1 = x1 then
        (f_X10_field x7 (2 : Int32) q1.2).bind fun q2 =>
        if q2.1 < x3 then
          f_X10_wouldHold_b52 (f_X10_wouldHold_b13  n) x1 x2 x3 x4 x5 x6 x7 (0 : Int32) q2.2
        else
          f_X10_wouldHold_b52 (f_X10_wouldHold_b13  n) x1 x2 x3 x4 x5 x6 x7 x4 q2.2
      else
        f_X10_wouldHold_b151 (f_X10_wouldHold_b13  n) x1 x2 x3 x4 x5 x6 x7 q1.2
set_option maxRecDepth 20000 in
set_option maxHeartbeats 4000000 in
theorem ok_X10_wouldHold_b13 {l : Launch} {g : Gam} {b : Nat}   : ∀ (n : Nat) (x1 : Int32) (x2 : Int32) (x3 : Int32) (x4 : Int32) (x5 : Int32) (x6 : Int32) (x7 : Int32) (M : Mem) (z : Int32 × Mem), f_X10_wouldHold_b13  n x1 x2 x3 x4 x5 x6 x7 M = some z → V l g (wM b) m_X10_wouldHold 13 [(0, .ref (b + 0)), (1, .int x1), (2, .int x2), (3, .int x3), (4, .int x4), (5, .int x5), (6, .int x6), (7, .int x7)] [] M (some (.int z.1)) z.2 := by
  intro n
  induction n with
  | zero =>
    intro x1 x2 x3 x4 x5 x6 x7 M z  hf
    cases hf
  | succ n ih =>
    intro x1 x2 x3 x4 x5 x6 x7 M z  hf
    rw [f_X10_wouldHold_b13] at hf
    refine V_iload (Y := m_X10_wouldHold) (pc := 13) 7 dX10_wouldHold_13 rfl ?_
    refine V_aload_n (Y := m_X10_wouldHold) (pc := 15) 0 dX10_wouldHold_15 rfl ?_
    refine V_grL (Y := m_X10_wouldHold) (pc := 16) (x := 1) 0 kX10 sM_0 (by decide +kernel) rfl rfl tw_1070 dX10_wouldHold_16 ?_
    refine V_iconst (Y := m_X10_wouldHold) (pc := 19) (x := (0 : Int32)) dX10_wouldHold_19 (by decide +kernel) ?_
    refine V_ialdL (Y := m_X10_wouldHold) (pc := 20) (j := 0) sM_1 (by decide +kernel) rfl dX10_wouldHold_20 ?_
    refine V_icmp_ge (Y := m_X10_wouldHold) (pc := 21) (tgt := 157) dX10_wouldHold_21 (by decide +kernel) hf (fun hf => ?_) (fun hf => ?_)
    · exact V_sub [5, 6] rfl (ok_X10_wouldHold_b157  x5 x6 M z  hf)
    · refine V_aload_n (Y := m_X10_wouldHold) (pc := 24) 0 dX10_wouldHold_24 rfl ?_
      refine V_iload (Y := m_X10_wouldHold) (pc := 25) 7 dX10_wouldHold_25 rfl ?_
      refine V_iconst (Y := m_X10_wouldHold) (pc := 27) (x := (5 : Int32)) dX10_wouldHold_27 (by decide +kernel) ?_
      obtain ⟨q1, hq1, hf⟩ := g_bind hf
      refine V_cVi (Y := m_X10_wouldHold) (pc := 28) (As := [.int x7, .int (5 : Int32)]) yf_X10_field kX10 sM_0 (by decide +kernel) (ok_X10_field x7 (5 : Int32) M _  hq1) tw_1244 tw_20 tw_1242 rfl rfl (Nat.le_of_ble_eq_true rfl) dX10_wouldHold_28 ?_
      refine V_iload_n (Y := m_X10_wouldHold) (pc := 31) 1 dX10_wouldHold_31 rfl ?_
      refine V_icmp_ne (Y := m_X10_wouldHold) (pc := 32) (tgt := 151) dX10_wouldHold_32 (by decide +kernel) hf (fun hf => ?_) (fun hf => ?_)
      · exact V_sub [0, 1, 2, 3, 4, 5, 6, 7] rfl (ok_X10_wouldHold_b151 (f_X10_wouldHold_b13  n) ih x1 x2 x3 x4 x5 x6 x7 q1.2 z  hf)
      · refine V_aload_n (Y := m_X10_wouldHold) (pc := 35) 0 dX10_wouldHold_35 rfl ?_
        refine V_iload (Y := m_X10_wouldHold) (pc := 36) 7 dX10_wouldHold_36 rfl ?_
        refine V_iconst (Y := m_X10_wouldHold) (pc := 38) (x := (2 : Int32)) dX10_wouldHold_38 (by decide +kernel) ?_
        obtain ⟨q2, hq2, hf⟩ := g_bind hf
        refine V_cVi (Y := m_X10_wouldHold) (pc := 39) (As := [.int x7, .int (2 : Int32)]) yf_X10_field kX10 sM_0 (by decide +kernel) (ok_X10_field x7 (2 : Int32) q1.2 _  hq2) tw_1244 tw_20 tw_1242 rfl rfl (Nat.le_of_ble_eq_true rfl) dX10_wouldHold_39 ?_
        refine V_iload_n (Y := m_X10_wouldHold) (pc := 42) 3 dX10_wouldHold_42 rfl ?_
        refine V_icmp_lt (Y := m_X10_wouldHold) (pc := 43) (tgt := 51) dX10_wouldHold_43 (by decide +kernel) hf (fun hf => ?_) (fun hf => ?_)
        · refine V_iconst (Y := m_X10_wouldHold) (pc := 51) (x := (0 : Int32)) dX10_wouldHold_51 (by decide +kernel) ?_
          exact V_sub [0, 1, 2, 3, 4, 5, 6, 7] rfl (ok_X10_wouldHold_b52 (f_X10_wouldHold_b13  n) ih x1 x2 x3 x4 x5 x6 x7 (0 : Int32) q2.2 z  hf)
        · refine V_iload (Y := m_X10_wouldHold) (pc := 46) 4 dX10_wouldHold_46 rfl ?_
          refine V_goto (Y := m_X10_wouldHold) (pc := 48) (tgt := 52) dX10_wouldHold_48 (by decide +kernel) ?_
          exact V_sub [0, 1, 2, 3, 4, 5, 6, 7] rfl (ok_X10_wouldHold_b52 (f_X10_wouldHold_b13  n) ih x1 x2 x3 x4 x5 x6 x7 x4 q2.2 z  hf)
def f_X10_wouldHold_b0  (x1 : Int32) (x2 : Int32) (x3 : Int32) (x4 : Int32) (M : Mem) : Option (Int32 × Mem) :=
  f_X10_wouldHold_b13  FU x1 x2 x3 x4 (-1000000 : Int32) (1000000 : Int32) (0 : Int32) M
set_option maxRecDepth 20000 in
set_option maxHeartbeats 4000000 in
theorem ok_X10_wouldHold_b0 {l : Launch} {g : Gam} {b : Nat}   (x1 : Int32) (x2 : Int32) (x3 : Int32) (x4 : Int32) (M : Mem) (z : Int32 × Mem)  (hf : f_X10_wouldHold_b0 x1 x2 x3 x4 M = some z) : V l g (wM b) m_X10_wouldHold 0 [(0, .ref (b + 0)), (1, .int x1), (2, .int x2), (3, .int x3), (4, .int x4)] [] M (some (.int z.1)) z.2 := by
  unfold f_X10_wouldHold_b0 at hf
  refine V_ldcw (Y := m_X10_wouldHold) (pc := 0) (x := (-1000000 : Int32)) dX10_wouldHold_0 tw_1424 ?_
  refine V_istore (Y := m_X10_wouldHold) (pc := 3) [(5, .int (-1000000 : Int32)), (0, .ref (b + 0)), (1, .int x1), (2, .int x2), (3, .int x3), (4, .int x4)] dX10_wouldHold_3 (by decide +kernel) rfl ?_
  refine V_ldcw (Y := m_X10_wouldHold) (pc := 5) (x := (1000000 : Int32)) dX10_wouldHold_5 tw_1425 ?_
  refine V_istore (Y := m_X10_wouldHold) (pc := 8) [(6, .int (1000000 : Int32)), (5, .int (-1000000 : Int32)), (0, .ref (b + 0)), (1, .int x1), (2, .int x2), (3, .int x3), (4, .int x4)] dX10_wouldHold_8 (by decide +kernel) rfl ?_
  refine V_iconst (Y := m_X10_wouldHold) (pc := 10) (x := (0 : Int32)) dX10_wouldHold_10 (by decide +kernel) ?_
  refine V_istore (Y := m_X10_wouldHold) (pc := 11) [(7, .int (0 : Int32)), (6, .int (1000000 : Int32)), (5, .int (-1000000 : Int32)), (0, .ref (b + 0)), (1, .int x1), (2, .int x2), (3, .int x3), (4, .int x4)] dX10_wouldHold_11 (by decide +kernel) rfl ?_
  exact V_sub [3, 4, 5, 6, 7, 2, 1, 0] rfl (ok_X10_wouldHold_b13  FU x1 x2 x3 x4 (-1000000 : Int32) (1000000 : Int32) (0 : Int32) M z  hf)
def f_X10_wouldHold (x1 : Int32) (x2 : Int32) (x3 : Int32) (x4 : Int32) (M : Mem) : Option (Int32 × Mem) := f_X10_wouldHold_b0 x1 x2 x3 x4 M
set_option maxRecDepth 20000 in
set_option maxHeartbeats 4000000 in
theorem ok_X10_wouldHold {l : Launch} {g : Gam} {b : Nat} : ∀ (x1 : Int32) (x2 : Int32) (x3 : Int32) (x4 : Int32) (M : Mem) (z : Int32 × Mem), f_X10_wouldHold x1 x2 x3 x4 M = some z → Cn l g (wM b) m_X10_wouldHold [.ref (b + 0), .int x1, .int x2, .int x3, .int x4] M (some (.int z.1)) z.2 := fun x1 x2 x3 x4 M z  hf => Cn_of (by decide +kernel) (Nat.le_of_ble_eq_true rfl) (V_sub [0, 1, 2, 3, 4] rfl (ok_X10_wouldHold_b0 x1 x2 x3 x4 M z  hf))

