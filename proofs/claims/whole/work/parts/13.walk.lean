abbrev m_X10_isCape : Mth := (yX10_isCape, cX10_isCape, 1, some .boolean, 2)
theorem yf_X10_isCape : YF m_X10_isCape 1 := ⟨tw_1419, tw_75, by decide +kernel, by decide +kernel⟩
def f_X10_isCape_b0  (x0 : Int32) (M : Mem) : Option (Int32 × Mem) :=
  (f_X10_isIn x0.toInt64 (0 : Int64) (8 : Int64) M).bind fun q1 =>
  if z01 q1.1 = true then some (q1.1, q1.2) else none
set_option maxRecDepth 20000 in
set_option maxHeartbeats 4000000 in
theorem ok_X10_isCape_b0 {l : Launch} {g : Gam} {b : Nat}   (x0 : Int32) (M : Mem) (z : Int32 × Mem)  (hf : f_X10_isCape_b0 x0 M = some z) : V l g (wM b) m_X10_isCape 0 [(0, .int x0)] [] M (some (.int z.1)) z.2 := by
  unfold f_X10_isCape_b0 at hf
  refine V_iload_n (Y := m_X10_isCape) (pc := 0) 0 dX10_isCape_0 rfl ?_
  refine V_i2l (Y := m_X10_isCape) (pc := 1) dX10_isCape_1 ?_
  refine V_lconst (Y := m_X10_isCape) (pc := 2) (x := (0 : Int64)) dX10_isCape_2 (by decide +kernel) ?_
  refine V_ldc2 (Y := m_X10_isCape) (pc := 3) (x := (8 : Int64)) dX10_isCape_3 tw_1308 ?_
  obtain ⟨q1, hq1, hf⟩ := g_bind hf
  refine V_cSi (Y := m_X10_isCape) (pc := 6) (As := [.long x0.toInt64, .long (0 : Int64), .long (8 : Int64)]) yf_X10_isIn (by decide +kernel) (ok_X10_isIn x0.toInt64 (0 : Int64) (8 : Int64) M _  hq1) tw_1218 tw_1217 rfl rfl (Nat.le_of_ble_eq_true rfl) dX10_isCape_6 ?_
  obtain ⟨hz2, hf⟩ := g_if hf
  obtain rfl := Option.some.inj hf
  exact V_zret (Y := m_X10_isCape) hz2 rfl dX10_isCape_9
def f_X10_isCape (x0 : Int32) (M : Mem) : Option (Int32 × Mem) := f_X10_isCape_b0 x0 M
set_option maxRecDepth 20000 in
set_option maxHeartbeats 4000000 in
theorem ok_X10_isCape {l : Launch} {g : Gam} {b : Nat} : ∀ (x0 : Int32) (M : Mem) (z : Int32 × Mem), f_X10_isCape x0 M = some z → Cn l g (wM b) m_X10_isCape [.int x0] M (some (.int z.1)) z.2 := fun x0 M z  hf => Cn_of (by decide +kernel) (Nat.le_of_ble_eq_true rfl) (V_sub [0] rfl (ok_X10_isCape_b0 x0 M z  hf))

abbrev m_X10_isVoyage : Mth := (yX10_isVoyage, cX10_isVoyage, 1, some .boolean, 2)
theorem yf_X10_isVoyage : YF m_X10_isVoyage 1 := ⟨tw_1412, tw_75, by decide +kernel, by decide +kernel⟩
def f_X10_isVoyage_b0  (x0 : Int32) (M : Mem) : Option (Int32 × Mem) :=
  (f_X10_isIn x0.toInt64 (0 : Int64) (2 : Int64) M).bind fun q1 =>
  if z01 q1.1 = true then some (q1.1, q1.2) else none
set_option maxRecDepth 20000 in
set_option maxHeartbeats 4000000 in
theorem ok_X10_isVoyage_b0 {l : Launch} {g : Gam} {b : Nat}   (x0 : Int32) (M : Mem) (z : Int32 × Mem)  (hf : f_X10_isVoyage_b0 x0 M = some z) : V l g (wM b) m_X10_isVoyage 0 [(0, .int x0)] [] M (some (.int z.1)) z.2 := by
  unfold f_X10_isVoyage_b0 at hf
  refine V_iload_n (Y := m_X10_isVoyage) (pc := 0) 0 dX10_isVoyage_0 rfl ?_
  refine V_i2l (Y := m_X10_isVoyage) (pc := 1) dX10_isVoyage_1 ?_
  refine V_lconst (Y := m_X10_isVoyage) (pc := 2) (x := (0 : Int64)) dX10_isVoyage_2 (by decide +kernel) ?_
  refine V_ldc2 (Y := m_X10_isVoyage) (pc := 3) (x := (2 : Int64)) dX10_isVoyage_3 tw_1405 ?_
  obtain ⟨q1, hq1, hf⟩ := g_bind hf
  refine V_cSi (Y := m_X10_isVoyage) (pc := 6) (As := [.long x0.toInt64, .long (0 : Int64), .long (2 : Int64)]) yf_X10_isIn (by decide +kernel) (ok_X10_isIn x0.toInt64 (0 : Int64) (2 : Int64) M _  hq1) tw_1218 tw_1217 rfl rfl (Nat.le_of_ble_eq_true rfl) dX10_isVoyage_6 ?_
  obtain ⟨hz2, hf⟩ := g_if hf
  obtain rfl := Option.some.inj hf
  exact V_zret (Y := m_X10_isVoyage) hz2 rfl dX10_isVoyage_9
def f_X10_isVoyage (x0 : Int32) (M : Mem) : Option (Int32 × Mem) := f_X10_isVoyage_b0 x0 M
set_option maxRecDepth 20000 in
set_option maxHeartbeats 4000000 in
theorem ok_X10_isVoyage {l : Launch} {g : Gam} {b : Nat} : ∀ (x0 : Int32) (M : Mem) (z : Int32 × Mem), f_X10_isVoyage x0 M = some z → Cn l g (wM b) m_X10_isVoyage [.int x0] M (some (.int z.1)) z.2 := fun x0 M z  hf => Cn_of (by decide +kernel) (Nat.le_of_ble_eq_true rfl) (V_sub [0] rfl (ok_X10_isVoyage_b0 x0 M z  hf))

abbrev m_X10_isText : Mth := (yX10_isText, cX10_isText, 2, some .boolean, 2)
theorem yf_X10_isText : YF m_X10_isText 1 := ⟨tw_1404, tw_75, by decide +kernel, by decide +kernel⟩
def f_X10_isText_b0  (x1 : Int32) (M : Mem) : Option (Int32 × Mem) :=
  (f_X10_isIn x1.toInt64 (0 : Int64) ((M 1 1) - (1 : Int32)).toInt64 M).bind fun q1 =>
  if z01 q1.1 = true then some (q1.1, q1.2) else none
set_option maxRecDepth 20000 in
set_option maxHeartbeats 4000000 in
theorem ok_X10_isText_b0 {l : Launch} {g : Gam} {b : Nat}   (x1 : Int32) (M : Mem) (z : Int32 × Mem)  (hf : f_X10_isText_b0 x1 M = some z) : V l g (wM b) m_X10_isText 0 [(0, .ref (b + 0)), (1, .int x1)] [] M (some (.int z.1)) z.2 := by
  unfold f_X10_isText_b0 at hf
  refine V_iload_n (Y := m_X10_isText) (pc := 0) 1 dX10_isText_0 rfl ?_
  refine V_i2l (Y := m_X10_isText) (pc := 1) dX10_isText_1 ?_
  refine V_lconst (Y := m_X10_isText) (pc := 2) (x := (0 : Int64)) dX10_isText_2 (by decide +kernel) ?_
  refine V_aload_n (Y := m_X10_isText) (pc := 3) 0 dX10_isText_3 rfl ?_
  refine V_grL (Y := m_X10_isText) (pc := 4) (x := 1) 0 kX10 sM_0 (by decide +kernel) rfl rfl tw_1070 dX10_isText_4 ?_
  refine V_iconst (Y := m_X10_isText) (pc := 7) (x := (1 : Int32)) dX10_isText_7 (by decide +kernel) ?_
  refine V_ialdL (Y := m_X10_isText) (pc := 8) (j := 1) sM_1 (by decide +kernel) rfl dX10_isText_8 ?_
  refine V_iconst (Y := m_X10_isText) (pc := 9) (x := (1 : Int32)) dX10_isText_9 (by decide +kernel) ?_
  refine V_isub (Y := m_X10_isText) (pc := 10) dX10_isText_10 ?_
  refine V_i2l (Y := m_X10_isText) (pc := 11) dX10_isText_11 ?_
  obtain ⟨q1, hq1, hf⟩ := g_bind hf
  refine V_cSi (Y := m_X10_isText) (pc := 12) (As := [.long x1.toInt64, .long (0 : Int64), .long ((M 1 1) - (1 : Int32)).toInt64]) yf_X10_isIn (by decide +kernel) (ok_X10_isIn x1.toInt64 (0 : Int64) ((M 1 1) - (1 : Int32)).toInt64 M _  hq1) tw_1218 tw_1217 rfl rfl (Nat.le_of_ble_eq_true rfl) dX10_isText_12 ?_
  obtain ⟨hz2, hf⟩ := g_if hf
  obtain rfl := Option.some.inj hf
  exact V_zret (Y := m_X10_isText) hz2 rfl dX10_isText_15
def f_X10_isText (x1 : Int32) (M : Mem) : Option (Int32 × Mem) := f_X10_isText_b0 x1 M
set_option maxRecDepth 20000 in
set_option maxHeartbeats 4000000 in
theorem ok_X10_isText {l : Launch} {g : Gam} {b : Nat} : ∀ (x1 : Int32) (M : Mem) (z : Int32 × Mem), f_X10_isText x1 M = some z → Cn l g (wM b) m_X10_isText [.ref (b + 0), .int x1] M (some (.int z.1)) z.2 := fun x1 M z  hf => Cn_of (by decide +kernel) (Nat.le_of_ble_eq_true rfl) (V_sub [0, 1] rfl (ok_X10_isText_b0 x1 M z  hf))

abbrev m_X10_add : Mth := (yX10_add, cX10_add, 6, some .int, 2)
theorem yf_X10_add : YF m_X10_add 4 := ⟨tw_1229, tw_75, by decide +kernel, by decide +kernel⟩
def f_X10_add_bc98_3   (M : Mem) : Option (Int32 × Mem) :=
  some (((M 1 0) - (1 : Int32)), M)
set_option maxRecDepth 20000 in
set_option maxHeartbeats 4000000 in
theorem ok_X10_add_bc98_3 {l : Launch} {g : Gam} {b : Nat}    (M : Mem) (z : Int32 × Mem)  (hf : f_X10_add_bc98_3  M = some z) : V l g (wM b) m_X10_add 98 [(0, .ref (b + 0))] [] M (some (.int z.1)) z.2 := by
  unfold f_X10_add_bc98_3 at hf
  refine V_aload_n (Y := m_X10_add) (pc := 98) 0 dX10_add_98 rfl ?_
  refine V_grL (Y := m_X10_add) (pc := 99) (x := 1) 0 kX10 sM_0 (by decide +kernel) rfl rfl tw_1070 dX10_add_99 ?_
  refine V_iconst (Y := m_X10_add) (pc := 102) (x := (0 : Int32)) dX10_add_102 (by decide +kernel) ?_
  refine V_ialdL (Y := m_X10_add) (pc := 103) (j := 0) sM_1 (by decide +kernel) rfl dX10_add_103 ?_
  refine V_iconst (Y := m_X10_add) (pc := 104) (x := (1 : Int32)) dX10_add_104 (by decide +kernel) ?_
  refine V_isub (Y := m_X10_add) (pc := 105) dX10_add_105 ?_
  obtain rfl := Option.some.inj hf
  exact V_iret (Y := m_X10_add) rfl dX10_add_106
def f_X10_add_bc77_2  (x5 : Int32) (M : Mem) : Option (Int32 × Mem) :=
  if ixb (x5 + (6 : Int32)) 3300 = true then
  f_X10_add_bc98_3   (mset (mset M 1 (ix (x5 + (6 : Int32))) (-1 : Int32)) 1 0 (((mset M 1 (ix (x5 + (6 : Int32))) (-1 : Int32)) 1 0) + (1 : Int32)))
  else none
set_option maxRecDepth 20000 in
set_option maxHeartbeats 4000000 in
theorem ok_X10_add_bc77_2 {l : Launch} {g : Gam} {b : Nat}   (x5 : Int32) (M : Mem) (z : Int32 × Mem)  (hf : f_X10_add_bc77_2 x5 M = some z) : V l g (wM b) m_X10_add 77 [(0, .ref (b + 0)), (5, .int x5)] [] M (some (.int z.1)) z.2 := by
  unfold f_X10_add_bc77_2 at hf
  refine V_aload_n (Y := m_X10_add) (pc := 77) 0 dX10_add_77 rfl ?_
  refine V_grL (Y := m_X10_add) (pc := 78) (x := 1) 0 kX10 sM_0 (by decide +kernel) rfl rfl tw_1070 dX10_add_78 ?_
  refine V_iload (Y := m_X10_add) (pc := 81) 1 dX10_add_81 rfl ?_
  refine V_bipush (Y := m_X10_add) (pc := 83) (x := (6 : Int32)) dX10_add_83 (by decide +kernel) ?_
  refine V_iadd (Y := m_X10_add) (pc := 85) dX10_add_85 ?_
  refine V_iconst (Y := m_X10_add) (pc := 86) (x := (-1 : Int32)) dX10_add_86 (by decide +kernel) ?_
  obtain ⟨hi1, hf⟩ := g_if hf
  refine V_iast (Y := m_X10_add) (pc := 87) sM_1 hi1 dX10_add_87 ?_
  refine V_aload_n (Y := m_X10_add) (pc := 88) 0 dX10_add_88 rfl ?_
  refine V_grL (Y := m_X10_add) (pc := 89) (x := 1) 0 kX10 sM_0 (by decide +kernel) rfl rfl tw_1070 dX10_add_89 ?_
  refine V_iconst (Y := m_X10_add) (pc := 92) (x := (0 : Int32)) dX10_add_92 (by decide +kernel) ?_
  refine V_dup2 (Y := m_X10_add) (pc := 93) dX10_add_93 rfl rfl ?_
  refine V_ialdL (Y := m_X10_add) (pc := 94) (j := 0) sM_1 (by decide +kernel) rfl dX10_add_94 ?_
  refine V_iconst (Y := m_X10_add) (pc := 95) (x := (1 : Int32)) dX10_add_95 (by decide +kernel) ?_
  refine V_iadd (Y := m_X10_add) (pc := 96) dX10_add_96 ?_
  refine V_iastL (Y := m_X10_add) (pc := 97) (j := 0) sM_1 (by decide +kernel) rfl dX10_add_97 ?_
  exact V_sub [0] rfl (ok_X10_add_bc98_3   (mset (mset M 1 (ix (x5 + (6 : Int32))) (-1 : Int32)) 1 0 (((mset M 1 (ix (x5 + (6 : Int32))) (-1 : Int32)) 1 0) + (1 : Int32))) z  hf)
def f_X10_add_bc46_1  (x3 : Int32) (x4 : Int32) (x5 : Int32) (M : Mem) : Option (Int32 × Mem) :=
  if ixb (x5 + (3 : Int32)) 3300 = true then
  if ixb (x5 + (4 : Int32)) 3300 = true then
  if ixb (x5 + (5 : Int32)) 3300 = true then
  f_X10_add_bc77_2  x5 (mset (mset (mset M 1 (ix (x5 + (3 : Int32))) x3) 1 (ix (x5 + (4 : Int32))) x4) 1 (ix (x5 + (5 : Int32))) (-1 : Int32))
  else none
  else none
  else none
set_option maxRecDepth 20000 in
set_option maxHeartbeats 4000000 in
theorem ok_X10_add_bc46_1 {l : Launch} {g : Gam} {b : Nat}   (x3 : Int32) (x4 : Int32) (x5 : Int32) (M : Mem) (z : Int32 × Mem)  (hf : f_X10_add_bc46_1 x3 x4 x5 M = some z) : V l g (wM b) m_X10_add 46 [(0, .ref (b + 0)), (3, .int x3), (4, .int x4), (5, .int x5)] [] M (some (.int z.1)) z.2 := by
  unfold f_X10_add_bc46_1 at hf
  refine V_aload_n (Y := m_X10_add) (pc := 46) 0 dX10_add_46 rfl ?_
  refine V_grL (Y := m_X10_add) (pc := 47) (x := 1) 0 kX10 sM_0 (by decide +kernel) rfl rfl tw_1070 dX10_add_47 ?_
  refine V_iload (Y := m_X10_add) (pc := 50) 3 dX10_add_50 rfl ?_
  refine V_iconst (Y := m_X10_add) (pc := 52) (x := (3 : Int32)) dX10_add_52 (by decide +kernel) ?_
  refine V_iadd (Y := m_X10_add) (pc := 53) dX10_add_53 ?_
  refine V_iload_n (Y := m_X10_add) (pc := 54) 1 dX10_add_54 rfl ?_
  obtain ⟨hi1, hf⟩ := g_if hf
  refine V_iast (Y := m_X10_add) (pc := 55) sM_1 hi1 dX10_add_55 ?_
  refine V_aload_n (Y := m_X10_add) (pc := 56) 0 dX10_add_56 rfl ?_
  refine V_grL (Y := m_X10_add) (pc := 57) (x := 1) 0 kX10 sM_0 (by decide +kernel) rfl rfl tw_1070 dX10_add_57 ?_
  refine V_iload (Y := m_X10_add) (pc := 60) 3 dX10_add_60 rfl ?_
  refine V_iconst (Y := m_X10_add) (pc := 62) (x := (4 : Int32)) dX10_add_62 (by decide +kernel) ?_
  refine V_iadd (Y := m_X10_add) (pc := 63) dX10_add_63 ?_
  refine V_iload (Y := m_X10_add) (pc := 64) 2 dX10_add_64 rfl ?_
  obtain ⟨hi2, hf⟩ := g_if hf
  refine V_iast (Y := m_X10_add) (pc := 66) sM_1 hi2 dX10_add_66 ?_
  refine V_aload_n (Y := m_X10_add) (pc := 67) 0 dX10_add_67 rfl ?_
  refine V_grL (Y := m_X10_add) (pc := 68) (x := 1) 0 kX10 sM_0 (by decide +kernel) rfl rfl tw_1070 dX10_add_68 ?_
  refine V_iload (Y := m_X10_add) (pc := 71) 3 dX10_add_71 rfl ?_
  refine V_iconst (Y := m_X10_add) (pc := 73) (x := (5 : Int32)) dX10_add_73 (by decide +kernel) ?_
  refine V_iadd (Y := m_X10_add) (pc := 74) dX10_add_74 ?_
  refine V_iconst (Y := m_X10_add) (pc := 75) (x := (-1 : Int32)) dX10_add_75 (by decide +kernel) ?_
  obtain ⟨hi3, hf⟩ := g_if hf
  refine V_iast (Y := m_X10_add) (pc := 76) sM_1 hi3 dX10_add_76 ?_
  exact V_sub [0, 3] rfl (ok_X10_add_bc77_2  x5 (mset (mset (mset M 1 (ix (x5 + (3 : Int32))) x3) 1 (ix (x5 + (4 : Int32))) x4) 1 (ix (x5 + (5 : Int32))) (-1 : Int32)) z  hf)
def f_X10_add_b0  (x1 : Int32) (x2 : Int32) (x3 : Int32) (x4 : Int32) (M : Mem) : Option (Int32 × Mem) :=
  (f_X10_markAt (M 1 0) M).bind fun q1 =>
  if ixb q1.1 3300 = true then
  if ixb (q1.1 + (1 : Int32)) 3300 = true then
  if ixb (q1.1 + (2 : Int32)) 3300 = true then
  f_X10_add_bc46_1  x3 x4 q1.1 (mset (mset (mset q1.2 1 (ix q1.1) x1) 1 (ix (q1.1 + (1 : Int32))) (x2 / (100 : Int32))) 1 (ix (q1.1 + (2 : Int32))) (irem x2 (100 : Int32)))
  else none
  else none
  else none
set_option maxRecDepth 20000 in
set_option maxHeartbeats 4000000 in
theorem ok_X10_add_b0 {l : Launch} {g : Gam} {b : Nat}   (x1 : Int32) (x2 : Int32) (x3 : Int32) (x4 : Int32) (M : Mem) (z : Int32 × Mem)  (hf : f_X10_add_b0 x1 x2 x3 x4 M = some z) : V l g (wM b) m_X10_add 0 [(0, .ref (b + 0)), (1, .int x1), (2, .int x2), (3, .int x3), (4, .int x4)] [] M (some (.int z.1)) z.2 := by
  unfold f_X10_add_b0 at hf
  refine V_aload_n (Y := m_X10_add) (pc := 0) 0 dX10_add_0 rfl ?_
  refine V_aload_n (Y := m_X10_add) (pc := 1) 0 dX10_add_1 rfl ?_
  refine V_grL (Y := m_X10_add) (pc := 2) (x := 1) 0 kX10 sM_0 (by decide +kernel) rfl rfl tw_1070 dX10_add_2 ?_
  refine V_iconst (Y := m_X10_add) (pc := 5) (x := (0 : Int32)) dX10_add_5 (by decide +kernel) ?_
  refine V_ialdL (Y := m_X10_add) (pc := 6) (j := 0) sM_1 (by decide +kernel) rfl dX10_add_6 ?_
  obtain ⟨q1, hq1, hf⟩ := g_bind hf
  refine V_cVi (Y := m_X10_add) (pc := 7) (As := [.int (M 1 0)]) yf_X10_markAt kX10 sM_0 (by decide +kernel) (ok_X10_markAt (M 1 0) M _  hq1) tw_1232 tw_18 tw_1230 rfl rfl (Nat.le_of_ble_eq_true rfl) dX10_add_7 ?_
  refine V_istore (Y := m_X10_add) (pc := 10) [(5, .int q1.1), (0, .ref (b + 0)), (1, .int x1), (2, .int x2), (3, .int x3), (4, .int x4)] dX10_add_10 (by decide +kernel) rfl ?_
  refine V_aload_n (Y := m_X10_add) (pc := 12) 1 dX10_add_12 rfl ?_
  refine V_grL (Y := m_X10_add) (pc := 13) (x := 1) 0 kX10 sM_0 (by decide +kernel) rfl rfl tw_1070 dX10_add_13 ?_
  refine V_iload (Y := m_X10_add) (pc := 16) 0 dX10_add_16 rfl ?_
  refine V_iload_n (Y := m_X10_add) (pc := 18) 2 dX10_add_18 rfl ?_
  obtain ⟨hi2, hf⟩ := g_if hf
  refine V_iast (Y := m_X10_add) (pc := 19) sM_1 hi2 dX10_add_19 ?_
  refine V_aload_n (Y := m_X10_add) (pc := 20) 1 dX10_add_20 rfl ?_
  refine V_grL (Y := m_X10_add) (pc := 21) (x := 1) 0 kX10 sM_0 (by decide +kernel) rfl rfl tw_1070 dX10_add_21 ?_
  refine V_iload (Y := m_X10_add) (pc := 24) 0 dX10_add_24 rfl ?_
  refine V_iconst (Y := m_X10_add) (pc := 26) (x := (1 : Int32)) dX10_add_26 (by decide +kernel) ?_
  refine V_iadd (Y := m_X10_add) (pc := 27) dX10_add_27 ?_
  refine V_iload_n (Y := m_X10_add) (pc := 28) 3 dX10_add_28 rfl ?_
  refine V_bipush (Y := m_X10_add) (pc := 29) (x := (100 : Int32)) dX10_add_29 (by decide +kernel) ?_
  refine V_idiv (Y := m_X10_add) (pc := 31) dX10_add_31 (by decide +kernel) ?_
  obtain ⟨hi3, hf⟩ := g_if hf
  refine V_iast (Y := m_X10_add) (pc := 32) sM_1 hi3 dX10_add_32 ?_
  refine V_aload_n (Y := m_X10_add) (pc := 33) 1 dX10_add_33 rfl ?_
  refine V_grL (Y := m_X10_add) (pc := 34) (x := 1) 0 kX10 sM_0 (by decide +kernel) rfl rfl tw_1070 dX10_add_34 ?_
  refine V_iload (Y := m_X10_add) (pc := 37) 0 dX10_add_37 rfl ?_
  refine V_iconst (Y := m_X10_add) (pc := 39) (x := (2 : Int32)) dX10_add_39 (by decide +kernel) ?_
  refine V_iadd (Y := m_X10_add) (pc := 40) dX10_add_40 ?_
  refine V_iload_n (Y := m_X10_add) (pc := 41) 3 dX10_add_41 rfl ?_
  refine V_bipush (Y := m_X10_add) (pc := 42) (x := (100 : Int32)) dX10_add_42 (by decide +kernel) ?_
  refine V_irem (Y := m_X10_add) (pc := 44) dX10_add_44 (by decide +kernel) ?_
  obtain ⟨hi4, hf⟩ := g_if hf
  refine V_iast (Y := m_X10_add) (pc := 45) sM_1 hi4 dX10_add_45 ?_
  exact V_sub [1, 4, 5, 0] rfl (ok_X10_add_bc46_1  x3 x4 q1.1 (mset (mset (mset q1.2 1 (ix q1.1) x1) 1 (ix (q1.1 + (1 : Int32))) (x2 / (100 : Int32))) 1 (ix (q1.1 + (2 : Int32))) (irem x2 (100 : Int32))) z  hf)
def f_X10_add (x1 : Int32) (x2 : Int32) (x3 : Int32) (x4 : Int32) (M : Mem) : Option (Int32 × Mem) := f_X10_add_b0 x1 x2 x3 x4 M
set_option maxRecDepth 20000 in
set_option maxHeartbeats 4000000 in
theorem ok_X10_add {l : Launch} {g : Gam} {b : Nat} : ∀ (x1 : Int32) (x2 : Int32) (x3 : Int32) (x4 : Int32) (M : Mem) (z : Int32 × Mem), f_X10_add x1 x2 x3 x4 M = some z → Cn l g (wM b) m_X10_add [.ref (b + 0), .int x1, .int x2, .int x3, .int x4] M (some (.int z.1)) z.2 := fun x1 x2 x3 x4 M z  hf => Cn_of (by decide +kernel) (Nat.le_of_ble_eq_true rfl) (V_sub [0, 1, 2, 3, 4] rfl (ok_X10_add_b0 x1 x2 x3 x4 M z  hf))

abbrev m_X10_mark : Mth := (yX10_mark, cX10_mark, 5, some .int, 3)
theorem yf_X10_mark : YF m_X10_mark 4 := ⟨tw_1215, tw_75, by decide +kernel, by decide +kernel⟩
def f_X10_mark_b0  (x1 : Int32) (x2 : Int32) (x3 : Int32) (x4 : Int32) (M : Mem) : Option (Int32 × Mem) :=
  (f_X10_isIn x1.toInt64 (0 : Int64) (7 : Int64) M).bind fun q1 =>
  if q1.1 = 0 then
    some ((-1000000001 : Int32), q1.2)
  else
    (f_X10_isIn x2.toInt64 (0 : Int64) (299 : Int64) q1.2).bind fun q2 =>
    if q2.1 = 0 then
      some ((-1000000001 : Int32), q2.2)
    else
      (f_X10_isIn x3.toInt64 (0 : Int64) (999 : Int64) q2.2).bind fun q3 =>
      if q3.1 = 0 then
        some ((-1000000001 : Int32), q3.2)
      else
        (f_X10_isIn x4.toInt64 (-99 : Int64) (99 : Int64) q3.2).bind fun q4 =>
        if q4.1 = 0 then
          some ((-1000000001 : Int32), q4.2)
        else
          if (q4.2 1 0) = (24 : Int32) then
            some ((-1000000003 : Int32), q4.2)
          else
            (f_X10_add x1 x2 x3 x4 q4.2).bind fun q5 =>
            some (q5.1, q5.2)
set_option maxRecDepth 20000 in
set_option maxHeartbeats 4000000 in
theorem ok_X10_mark_b0 {l : Launch} {g : Gam} {b : Nat}   (x1 : Int32) (x2 : Int32) (x3 : Int32) (x4 : Int32) (M : Mem) (z : Int32 × Mem)  (hf : f_X10_mark_b0 x1 x2 x3 x4 M = some z) : V l g (wM b) m_X10_mark 0 [(0, .ref (b + 0)), (1, .int x1), (2, .int x2), (3, .int x3), (4, .int x4)] [] M (some (.int z.1)) z.2 := by
  unfold f_X10_mark_b0 at hf
  refine V_iload_n (Y := m_X10_mark) (pc := 0) 1 dX10_mark_0 rfl ?_
  refine V_i2l (Y := m_X10_mark) (pc := 1) dX10_mark_1 ?_
  refine V_lconst (Y := m_X10_mark) (pc := 2) (x := (0 : Int64)) dX10_mark_2 (by decide +kernel) ?_
  refine V_ldc2 (Y := m_X10_mark) (pc := 3) (x := (7 : Int64)) dX10_mark_3 tw_1216 ?_
  obtain ⟨q1, hq1, hf⟩ := g_bind hf
  refine V_cSi (Y := m_X10_mark) (pc := 6) (As := [.long x1.toInt64, .long (0 : Int64), .long (7 : Int64)]) yf_X10_isIn (by decide +kernel) (ok_X10_isIn x1.toInt64 (0 : Int64) (7 : Int64) M _  hq1) tw_1218 tw_1217 rfl rfl (Nat.le_of_ble_eq_true rfl) dX10_mark_6 ?_
  refine V_if_eq (Y := m_X10_mark) (pc := 9) (tgt := 51) dX10_mark_9 (by decide +kernel) hf (fun hf => ?_) (fun hf => ?_)
  · refine V_ldc (Y := m_X10_mark) (pc := 51) (x := (-1000000001 : Int32)) dX10_mark_51 tw_1224 ?_
    obtain rfl := Option.some.inj hf
    exact V_iret (Y := m_X10_mark) rfl dX10_mark_53
  · refine V_iload_n (Y := m_X10_mark) (pc := 12) 2 dX10_mark_12 rfl ?_
    refine V_i2l (Y := m_X10_mark) (pc := 13) dX10_mark_13 ?_
    refine V_lconst (Y := m_X10_mark) (pc := 14) (x := (0 : Int64)) dX10_mark_14 (by decide +kernel) ?_
    refine V_ldc2 (Y := m_X10_mark) (pc := 15) (x := (299 : Int64)) dX10_mark_15 tw_1220 ?_
    obtain ⟨q2, hq2, hf⟩ := g_bind hf
    refine V_cSi (Y := m_X10_mark) (pc := 18) (As := [.long x2.toInt64, .long (0 : Int64), .long (299 : Int64)]) yf_X10_isIn (by decide +kernel) (ok_X10_isIn x2.toInt64 (0 : Int64) (299 : Int64) q1.2 _  hq2) tw_1218 tw_1217 rfl rfl (Nat.le_of_ble_eq_true rfl) dX10_mark_18 ?_
    refine V_if_eq (Y := m_X10_mark) (pc := 21) (tgt := 51) dX10_mark_21 (by decide +kernel) hf (fun hf => ?_) (fun hf => ?_)
    · refine V_ldc (Y := m_X10_mark) (pc := 51) (x := (-1000000001 : Int32)) dX10_mark_51 tw_1224 ?_
      obtain rfl := Option.some.inj hf
      exact V_iret (Y := m_X10_mark) rfl dX10_mark_53
    · refine V_iload_n (Y := m_X10_mark) (pc := 24) 3 dX10_mark_24 rfl ?_
      refine V_i2l (Y := m_X10_mark) (pc := 25) dX10_mark_25 ?_
      refine V_lconst (Y := m_X10_mark) (pc := 26) (x := (0 : Int64)) dX10_mark_26 (by decide +kernel) ?_
      refine V_ldc2 (Y := m_X10_mark) (pc := 27) (x := (999 : Int64)) dX10_mark_27 tw_1221 ?_
      obtain ⟨q3, hq3, hf⟩ := g_bind hf
      refine V_cSi (Y := m_X10_mark) (pc := 30) (As := [.long x3.toInt64, .long (0 : Int64), .long (999 : Int64)]) yf_X10_isIn (by decide +kernel) (ok_X10_isIn x3.toInt64 (0 : Int64) (999 : Int64) q2.2 _  hq3) tw_1218 tw_1217 rfl rfl (Nat.le_of_ble_eq_true rfl) dX10_mark_30 ?_
      refine V_if_eq (Y := m_X10_mark) (pc := 33) (tgt := 51) dX10_mark_33 (by decide +kernel) hf (fun hf => ?_) (fun hf => ?_)
      · refine V_ldc (Y := m_X10_mark) (pc := 51) (x := (-1000000001 : Int32)) dX10_mark_51 tw_1224 ?_
        obtain rfl := Option.some.inj hf
        exact V_iret (Y := m_X10_mark) rfl dX10_mark_53
      · refine V_iload (Y := m_X10_mark) (pc := 36) 4 dX10_mark_36 rfl ?_
        refine V_i2l (Y := m_X10_mark) (pc := 38) dX10_mark_38 ?_
        refine V_ldc2 (Y := m_X10_mark) (pc := 39) (x := (-99 : Int64)) dX10_mark_39 tw_1222 ?_
        refine V_ldc2 (Y := m_X10_mark) (pc := 42) (x := (99 : Int64)) dX10_mark_42 tw_1223 ?_
        obtain ⟨q4, hq4, hf⟩ := g_bind hf
        refine V_cSi (Y := m_X10_mark) (pc := 45) (As := [.long x4.toInt64, .long (-99 : Int64), .long (99 : Int64)]) yf_X10_isIn (by decide +kernel) (ok_X10_isIn x4.toInt64 (-99 : Int64) (99 : Int64) q3.2 _  hq4) tw_1218 tw_1217 rfl rfl (Nat.le_of_ble_eq_true rfl) dX10_mark_45 ?_
        refine V_if_ne (Y := m_X10_mark) (pc := 48) (tgt := 54) dX10_mark_48 (by decide +kernel) hf (fun hf => ?_) (fun hf => ?_)
        · refine V_aload_n (Y := m_X10_mark) (pc := 54) 0 dX10_mark_54 rfl ?_
          refine V_grL (Y := m_X10_mark) (pc := 55) (x := 1) 0 kX10 sM_0 (by decide +kernel) rfl rfl tw_1070 dX10_mark_55 ?_
          refine V_iconst (Y := m_X10_mark) (pc := 58) (x := (0 : Int32)) dX10_mark_58 (by decide +kernel) ?_
          refine V_ialdL (Y := m_X10_mark) (pc := 59) (j := 0) sM_1 (by decide +kernel) rfl dX10_mark_59 ?_
          refine V_bipush (Y := m_X10_mark) (pc := 60) (x := (24 : Int32)) dX10_mark_60 (by decide +kernel) ?_
          refine V_icmp_ne (Y := m_X10_mark) (pc := 62) (tgt := 70) dX10_mark_62 (by decide +kernel) hf (fun hf => ?_) (fun hf => ?_)
          · refine V_aload_n (Y := m_X10_mark) (pc := 70) 0 dX10_mark_70 rfl ?_
            refine V_iload_n (Y := m_X10_mark) (pc := 71) 1 dX10_mark_71 rfl ?_
            refine V_iload_n (Y := m_X10_mark) (pc := 72) 2 dX10_mark_72 rfl ?_
            refine V_iload_n (Y := m_X10_mark) (pc := 73) 3 dX10_mark_73 rfl ?_
            refine V_iload (Y := m_X10_mark) (pc := 74) 4 dX10_mark_74 rfl ?_
            obtain ⟨q5, hq5, hf⟩ := g_bind hf
            refine V_cVi (Y := m_X10_mark) (pc := 76) (As := [.int x1, .int x2, .int x3, .int x4]) yf_X10_add kX10 sM_0 (by decide +kernel) (ok_X10_add x1 x2 x3 x4 q4.2 _  hq5) tw_1228 tw_17 tw_1226 rfl rfl (Nat.le_of_ble_eq_true rfl) dX10_mark_76 ?_
            obtain rfl := Option.some.inj hf
            exact V_iret (Y := m_X10_mark) rfl dX10_mark_79
          · refine V_ldc (Y := m_X10_mark) (pc := 65) (x := (-1000000003 : Int32)) dX10_mark_65 tw_1225 ?_
            refine V_goto (Y := m_X10_mark) (pc := 67) (tgt := 79) dX10_mark_67 (by decide +kernel) ?_
            obtain rfl := Option.some.inj hf
            exact V_iret (Y := m_X10_mark) rfl dX10_mark_79
        · refine V_ldc (Y := m_X10_mark) (pc := 51) (x := (-1000000001 : Int32)) dX10_mark_51 tw_1224 ?_
          obtain rfl := Option.some.inj hf
          exact V_iret (Y := m_X10_mark) rfl dX10_mark_53
def f_X10_mark (x1 : Int32) (x2 : Int32) (x3 : Int32) (x4 : Int32) (M : Mem) : Option (Int32 × Mem) := f_X10_mark_b0 x1 x2 x3 x4 M
set_option maxRecDepth 20000 in
set_option maxHeartbeats 4000000 in
theorem ok_X10_mark {l : Launch} {g : Gam} {b : Nat} : ∀ (x1 : Int32) (x2 : Int32) (x3 : Int32) (x4 : Int32) (M : Mem) (z : Int32 × Mem), f_X10_mark x1 x2 x3 x4 M = some z → Cn l g (wM b) m_X10_mark [.ref (b + 0), .int x1, .int x2, .int x3, .int x4] M (some (.int z.1)) z.2 := fun x1 x2 x3 x4 M z  hf => Cn_of (by decide +kernel) (Nat.le_of_ble_eq_true rfl) (V_sub [0, 1, 2, 3, 4] rfl (ok_X10_mark_b0 x1 x2 x3 x4 M z  hf))

abbrev m_X10_counts : Mth := (yX10_counts, cX10_counts, 5, some .int, 2)
theorem yf_X10_counts : YF m_X10_counts 2 := ⟨tw_1265, tw_75, by decide +kernel, by decide +kernel⟩
def f_X10_counts_b41 (k5 : Int32 → Int32 → Int32 → Int32 → Mem → Option (Int32 × Mem)) (x1 : Int32) (x2 : Int32) (x4 : Int32) (s0 : Int32) (M : Mem) : Option (Int32 × Mem) :=
  k5 x1 x2 s0 (x4 + (1 : Int32)) M
set_option maxRecDepth 20000 in
set_option maxHeartbeats 4000000 in
theorem ok_X10_counts_b41 {l : Launch} {g : Gam} {b : Nat} (k5 : Int32 → Int32 → Int32 → Int32 → Mem → Option (Int32 × Mem)) (hk5 : ∀ (x1 : Int32) (x2 : Int32) (x3 : Int32) (x4 : Int32) (M : Mem) (z : Int32 × Mem), k5 x1 x2 x3 x4 M = some z → V l g (wM b) m_X10_counts 5 [(0, .ref (b + 0)), (1, .int x1), (2, .int x2), (3, .int x3), (4, .int x4)] [] M (some (.int z.1)) z.2) (x1 : Int32) (x2 : Int32) (x4 : Int32) (s0 : Int32) (M : Mem) (z : Int32 × Mem)  (hf : f_X10_counts_b41 k5 x1 x2 x4 s0 M = some z) : V l g (wM b) m_X10_counts 41 [(0, .ref (b + 0)), (1, .int x1), (2, .int x2), (4, .int x4)] [.int s0] M (some (.int z.1)) z.2 := by
  unfold f_X10_counts_b41 at hf
  refine V_istore_n (Y := m_X10_counts) (pc := 41) [(3, .int s0), (0, .ref (b + 0)), (1, .int x1), (2, .int x2), (4, .int x4)] dX10_counts_41 (by decide +kernel) rfl ?_
  refine V_iinc (Y := m_X10_counts) (pc := 42) (y := (x4 + (1 : Int32))) 4 [(4, .int (x4 + (1 : Int32))), (3, .int s0), (0, .ref (b + 0)), (1, .int x1), (2, .int x2)] dX10_counts_42 rfl rfl (by decide +kernel) rfl ?_
  refine V_goto (Y := m_X10_counts) (pc := 45) (tgt := 5) dX10_counts_45 (by decide +kernel) ?_
  exact V_sub [2, 3, 4, 1, 0] rfl (hk5 x1 x2 s0 (x4 + (1 : Int32)) M z  hf)
def f_X10_counts_b5  : Nat → Int32 → Int32 → Int32 → Int32 → Mem → Option (Int32 × Mem)
  | 0, _, _, _, _, _ => none
  | n + 1, x1, x2, x3, x4, M =>
    if (M 1 1) ≤ x4 then
      some (x3, M)
    else
      (f_X10_textAt x4 M).bind fun q1 =>
      if ixb q1.1 3300 = true then
      if (q1.2 1 (ix q1.1)) = (((3 : Int32) * x2) + x1) then
        f_X10_counts_b41 (f_X10_counts_b5  n) x1 x2 x4 x4 q1.2
      else
        f_X10_counts_b41 (f_X10_counts_b5  n) x1 x2 x4 x3 q1.2
      else none
set_option maxRecDepth 20000 in
set_option maxHeartbeats 4000000 in
theorem ok_X10_counts_b5 {l : Launch} {g : Gam} {b : Nat}   : ∀ (n : Nat) (x1 : Int32) (x2 : Int32) (x3 : Int32) (x4 : Int32) (M : Mem) (z : Int32 × Mem), f_X10_counts_b5  n x1 x2 x3 x4 M = some z → V l g (wM b) m_X10_counts 5 [(0, .ref (b + 0)), (1, .int x1), (2, .int x2), (3, .int x3), (4, .int x4)] [] M (some (.int z.1)) z.2 := by
  intro n
  induction n with
  | zero =>
    intro x1 x2 x3 x4 M z  hf
    cases hf
  | succ n ih =>
    intro x1 x2 x3 x4 M z  hf
    rw [f_X10_counts_b5] at hf
    refine V_iload (Y := m_X10_counts) (pc := 5) 4 dX10_counts_5 rfl ?_
    refine V_aload_n (Y := m_X10_counts) (pc := 7) 0 dX10_counts_7 rfl ?_
    refine V_grL (Y := m_X10_counts) (pc := 8) (x := 1) 0 kX10 sM_0 (by decide +kernel) rfl rfl tw_1070 dX10_counts_8 ?_
    refine V_iconst (Y := m_X10_counts) (pc := 11) (x := (1 : Int32)) dX10_counts_11 (by decide +kernel) ?_
    refine V_ialdL (Y := m_X10_counts) (pc := 12) (j := 1) sM_1 (by decide +kernel) rfl dX10_counts_12 ?_
    refine V_icmp_ge (Y := m_X10_counts) (pc := 13) (tgt := 48) dX10_counts_13 (by decide +kernel) hf (fun hf => ?_) (fun hf => ?_)
    · refine V_iload_n (Y := m_X10_counts) (pc := 48) 3 dX10_counts_48 rfl ?_
      obtain rfl := Option.some.inj hf
      exact V_iret (Y := m_X10_counts) rfl dX10_counts_49
    · refine V_aload_n (Y := m_X10_counts) (pc := 16) 0 dX10_counts_16 rfl ?_
      refine V_grL (Y := m_X10_counts) (pc := 17) (x := 1) 0 kX10 sM_0 (by decide +kernel) rfl rfl tw_1070 dX10_counts_17 ?_
      refine V_aload_n (Y := m_X10_counts) (pc := 20) 0 dX10_counts_20 rfl ?_
      refine V_iload (Y := m_X10_counts) (pc := 21) 4 dX10_counts_21 rfl ?_
      obtain ⟨q1, hq1, hf⟩ := g_bind hf
      refine V_cVi (Y := m_X10_counts) (pc := 23) (As := [.int x4]) yf_X10_textAt kX10 sM_0 (by decide +kernel) (ok_X10_textAt x4 M _  hq1) tw_1268 tw_25 tw_1266 rfl rfl (Nat.le_of_ble_eq_true rfl) dX10_counts_23 ?_
      obtain ⟨hi2, hf⟩ := g_if hf
      refine V_iald (Y := m_X10_counts) (pc := 26) sM_1 hi2 dX10_counts_26 ?_
      refine V_iconst (Y := m_X10_counts) (pc := 27) (x := (3 : Int32)) dX10_counts_27 (by decide +kernel) ?_
      refine V_iload_n (Y := m_X10_counts) (pc := 28) 2 dX10_counts_28 rfl ?_
      refine V_imul (Y := m_X10_counts) (pc := 29) dX10_counts_29 ?_
      refine V_iload_n (Y := m_X10_counts) (pc := 30) 1 dX10_counts_30 rfl ?_
      refine V_iadd (Y := m_X10_counts) (pc := 31) dX10_counts_31 ?_
      refine V_icmp_ne (Y := m_X10_counts) (pc := 32) (tgt := 40) dX10_counts_32 (by decide +kernel) hf (fun hf => ?_) (fun hf => ?_)
      · refine V_iload_n (Y := m_X10_counts) (pc := 40) 3 dX10_counts_40 rfl ?_
        exact V_sub [0, 1, 2, 4] rfl (ok_X10_counts_b41 (f_X10_counts_b5  n) ih x1 x2 x4 x3 q1.2 z  hf)
      · refine V_iload (Y := m_X10_counts) (pc := 35) 4 dX10_counts_35 rfl ?_
        refine V_goto (Y := m_X10_counts) (pc := 37) (tgt := 41) dX10_counts_37 (by decide +kernel) ?_
        exact V_sub [0, 1, 2, 4] rfl (ok_X10_counts_b41 (f_X10_counts_b5  n) ih x1 x2 x4 x4 q1.2 z  hf)
def f_X10_counts_b0  (x1 : Int32) (x2 : Int32) (M : Mem) : Option (Int32 × Mem) :=
  f_X10_counts_b5  FU x1 x2 (-1 : Int32) (0 : Int32) M
set_option maxRecDepth 20000 in
set_option maxHeartbeats 4000000 in
theorem ok_X10_counts_b0 {l : Launch} {g : Gam} {b : Nat}   (x1 : Int32) (x2 : Int32) (M : Mem) (z : Int32 × Mem)  (hf : f_X10_counts_b0 x1 x2 M = some z) : V l g (wM b) m_X10_counts 0 [(0, .ref (b + 0)), (1, .int x1), (2, .int x2)] [] M (some (.int z.1)) z.2 := by
  unfold f_X10_counts_b0 at hf
  refine V_iconst (Y := m_X10_counts) (pc := 0) (x := (-1 : Int32)) dX10_counts_0 (by decide +kernel) ?_
  refine V_istore_n (Y := m_X10_counts) (pc := 1) [(3, .int (-1 : Int32)), (0, .ref (b + 0)), (1, .int x1), (2, .int x2)] dX10_counts_1 (by decide +kernel) rfl ?_
  refine V_iconst (Y := m_X10_counts) (pc := 2) (x := (0 : Int32)) dX10_counts_2 (by decide +kernel) ?_
  refine V_istore (Y := m_X10_counts) (pc := 3) [(4, .int (0 : Int32)), (3, .int (-1 : Int32)), (0, .ref (b + 0)), (1, .int x1), (2, .int x2)] dX10_counts_3 (by decide +kernel) rfl ?_
  exact V_sub [2, 3, 4, 1, 0] rfl (ok_X10_counts_b5  FU x1 x2 (-1 : Int32) (0 : Int32) M z  hf)
def f_X10_counts (x1 : Int32) (x2 : Int32) (M : Mem) : Option (Int32 × Mem) := f_X10_counts_b0 x1 x2 M
set_option maxRecDepth 20000 in
set_option maxHeartbeats 4000000 in
theorem ok_X10_counts {l : Launch} {g : Gam} {b : Nat} : ∀ (x1 : Int32) (x2 : Int32) (M : Mem) (z : Int32 × Mem), f_X10_counts x1 x2 M = some z → Cn l g (wM b) m_X10_counts [.ref (b + 0), .int x1, .int x2] M (some (.int z.1)) z.2 := fun x1 x2 M z  hf => Cn_of (by decide +kernel) (Nat.le_of_ble_eq_true rfl) (V_sub [0, 1, 2] rfl (ok_X10_counts_b0 x1 x2 M z  hf))

abbrev m_X10_joined : Mth := (yX10_joined, cX10_joined, 3, some .int, 1)
theorem yf_X10_joined : YF m_X10_joined 3 := ⟨tw_1276, tw_75, by decide +kernel, by decide +kernel⟩
def f_X10_joined_b205   (M : Mem) : Option (Int32 × Mem) :=
  some ((1 : Int32), M)
set_option maxRecDepth 20000 in
set_option maxHeartbeats 4000000 in
theorem ok_X10_joined_b205 {l : Launch} {g : Gam} {b : Nat}    (M : Mem) (z : Int32 × Mem)  (hf : f_X10_joined_b205  M = some z) : V l g (wM b) m_X10_joined 205 [] [] M (some (.int z.1)) z.2 := by
  unfold f_X10_joined_b205 at hf
  refine V_iconst (Y := m_X10_joined) (pc := 205) (x := (1 : Int32)) dX10_joined_205 (by decide +kernel) ?_
  refine V_goto (Y := m_X10_joined) (pc := 206) (tgt := 210) dX10_joined_206 (by decide +kernel) ?_
  obtain rfl := Option.some.inj hf
  exact V_iret (Y := m_X10_joined) rfl dX10_joined_210
def f_X10_joined_b197  (x1 : Int32) (x2 : Int32) (M : Mem) : Option (Int32 × Mem) :=
  if x1 = 0 then
    if x2 = 0 then
      some ((0 : Int32), M)
    else
      f_X10_joined_b205   M
  else
    f_X10_joined_b205   M
set_option maxRecDepth 20000 in
set_option maxHeartbeats 4000000 in
theorem ok_X10_joined_b197 {l : Launch} {g : Gam} {b : Nat}   (x1 : Int32) (x2 : Int32) (M : Mem) (z : Int32 × Mem)  (hf : f_X10_joined_b197 x1 x2 M = some z) : V l g (wM b) m_X10_joined 197 [(1, .int x1), (2, .int x2)] [] M (some (.int z.1)) z.2 := by
  unfold f_X10_joined_b197 at hf
  refine V_iload_n (Y := m_X10_joined) (pc := 197) 0 dX10_joined_197 rfl ?_
  refine V_if_ne (Y := m_X10_joined) (pc := 198) (tgt := 205) dX10_joined_198 (by decide +kernel) hf (fun hf => ?_) (fun hf => ?_)
  · exact V_sub [] rfl (ok_X10_joined_b205   M z  hf)
  · refine V_iload_n (Y := m_X10_joined) (pc := 201) 1 dX10_joined_201 rfl ?_
    refine V_if_eq (Y := m_X10_joined) (pc := 202) (tgt := 209) dX10_joined_202 (by decide +kernel) hf (fun hf => ?_) (fun hf => ?_)
    · refine V_iconst (Y := m_X10_joined) (pc := 209) (x := (0 : Int32)) dX10_joined_209 (by decide +kernel) ?_
      obtain rfl := Option.some.inj hf
      exact V_iret (Y := m_X10_joined) rfl dX10_joined_210
    · exact V_sub [] rfl (ok_X10_joined_b205   M z  hf)
def f_X10_joined_b0  (x0 : Int32) (x1 : Int32) (x2 : Int32) (M : Mem) : Option (Int32 × Mem) :=
  if x0 = (38 : Int32) then
    if x1 = 0 then
      some ((0 : Int32), M)
    else
      if x2 = 0 then
        some ((0 : Int32), M)
      else
        some ((1 : Int32), M)
  else
  if x0 = (39 : Int32) then
    f_X10_joined_b197  x1 x2 M
  else
  if x0 = (40 : Int32) then
    f_X10_joined_b197  x1 x2 M
  else
  if x0 = (41 : Int32) then
    f_X10_joined_b197  x1 x2 M
  else
  if x0 = (42 : Int32) then
    some ((x1 * x2), M)
  else
  if x0 = (43 : Int32) then
    some ((x1 + x2), M)
  else
  if x0 = (44 : Int32) then
    f_X10_joined_b197  x1 x2 M
  else
  if x0 = (45 : Int32) then
    some ((x1 - x2), M)
  else
  if x0 = (46 : Int32) then
    f_X10_joined_b197  x1 x2 M
  else
  if x0 = (47 : Int32) then
    if x2 = 0 then
      some ((0 : Int32), M)
    else
      if x2 = (-1 : Int32) then
        some ((-x1), M)
      else
        if x2 = 0 then none else
        some ((x1 / x2), M)
  else
  if x0 = (48 : Int32) then
    f_X10_joined_b197  x1 x2 M
  else
  if x0 = (49 : Int32) then
    f_X10_joined_b197  x1 x2 M
  else
  if x0 = (50 : Int32) then
    f_X10_joined_b197  x1 x2 M
  else
  if x0 = (51 : Int32) then
    f_X10_joined_b197  x1 x2 M
  else
  if x0 = (52 : Int32) then
    f_X10_joined_b197  x1 x2 M
  else
  if x0 = (53 : Int32) then
    f_X10_joined_b197  x1 x2 M
  else
  if x0 = (54 : Int32) then
    f_X10_joined_b197  x1 x2 M
  else
  if x0 = (55 : Int32) then
    f_X10_joined_b197  x1 x2 M
  else
  if x0 = (56 : Int32) then
    f_X10_joined_b197  x1 x2 M
  else
  if x0 = (57 : Int32) then
    f_X10_joined_b197  x1 x2 M
  else
  if x0 = (58 : Int32) then
    f_X10_joined_b197  x1 x2 M
  else
  if x0 = (59 : Int32) then
    f_X10_joined_b197  x1 x2 M
  else
  if x0 = (60 : Int32) then
    if x2 ≤ x1 then
      some ((0 : Int32), M)
    else
      some ((1 : Int32), M)
  else
  if x0 = (61 : Int32) then
    if x1 = x2 then
      some ((1 : Int32), M)
    else
      some ((0 : Int32), M)
  else
  if x0 = (62 : Int32) then
    if x1 ≤ x2 then
      some ((0 : Int32), M)
    else
      some ((1 : Int32), M)
  else
  f_X10_joined_b197  x1 x2 M
set_option maxRecDepth 20000 in
set_option maxHeartbeats 4000000 in
theorem ok_X10_joined_b0 {l : Launch} {g : Gam} {b : Nat}   (x0 : Int32) (x1 : Int32) (x2 : Int32) (M : Mem) (z : Int32 × Mem)  (hf : f_X10_joined_b0 x0 x1 x2 M = some z) : V l g (wM b) m_X10_joined 0 [(0, .int x0), (1, .int x1), (2, .int x2)] [] M (some (.int z.1)) z.2 := by
  unfold f_X10_joined_b0 at hf
  refine V_iload_n (Y := m_X10_joined) (pc := 0) 0 dX10_joined_0 rfl ?_
  by_cases hc1 : x0 = (38 : Int32)
  · rw [if_pos hc1] at hf
    refine V_tsw (Y := m_X10_joined) (pc := 1) (tgt := 183) (38 : Int32) hc1 dX10_joined_1 (by decide +kernel) ?_
    refine V_iload_n (Y := m_X10_joined) (pc := 183) 1 dX10_joined_183 rfl ?_
    refine V_if_eq (Y := m_X10_joined) (pc := 184) (tgt := 195) dX10_joined_184 (by decide +kernel) hf (fun hf => ?_) (fun hf => ?_)
    · refine V_iconst (Y := m_X10_joined) (pc := 195) (x := (0 : Int32)) dX10_joined_195 (by decide +kernel) ?_
      obtain rfl := Option.some.inj hf
      exact V_iret (Y := m_X10_joined) rfl dX10_joined_196
    · refine V_iload_n (Y := m_X10_joined) (pc := 187) 2 dX10_joined_187 rfl ?_
      refine V_if_eq (Y := m_X10_joined) (pc := 188) (tgt := 195) dX10_joined_188 (by decide +kernel) hf (fun hf => ?_) (fun hf => ?_)
      · refine V_iconst (Y := m_X10_joined) (pc := 195) (x := (0 : Int32)) dX10_joined_195 (by decide +kernel) ?_
        obtain rfl := Option.some.inj hf
        exact V_iret (Y := m_X10_joined) rfl dX10_joined_196
      · refine V_iconst (Y := m_X10_joined) (pc := 191) (x := (1 : Int32)) dX10_joined_191 (by decide +kernel) ?_
        refine V_goto (Y := m_X10_joined) (pc := 192) (tgt := 196) dX10_joined_192 (by decide +kernel) ?_
        obtain rfl := Option.some.inj hf
        exact V_iret (Y := m_X10_joined) rfl dX10_joined_196
  rw [if_neg hc1] at hf
  by_cases hc2 : x0 = (39 : Int32)
  · rw [if_pos hc2] at hf
    refine V_tsw (Y := m_X10_joined) (pc := 1) (tgt := 197) (39 : Int32) hc2 dX10_joined_1 (by decide +kernel) ?_
    exact V_sub [1, 2] rfl (ok_X10_joined_b197  x1 x2 M z  hf)
  rw [if_neg hc2] at hf
  by_cases hc3 : x0 = (40 : Int32)
  · rw [if_pos hc3] at hf
    refine V_tsw (Y := m_X10_joined) (pc := 1) (tgt := 197) (40 : Int32) hc3 dX10_joined_1 (by decide +kernel) ?_
    exact V_sub [1, 2] rfl (ok_X10_joined_b197  x1 x2 M z  hf)
  rw [if_neg hc3] at hf
  by_cases hc4 : x0 = (41 : Int32)
  · rw [if_pos hc4] at hf
    refine V_tsw (Y := m_X10_joined) (pc := 1) (tgt := 197) (41 : Int32) hc4 dX10_joined_1 (by decide +kernel) ?_
    exact V_sub [1, 2] rfl (ok_X10_joined_b197  x1 x2 M z  hf)
  rw [if_neg hc4] at hf
  by_cases hc5 : x0 = (42 : Int32)
  · rw [if_pos hc5] at hf
    refine V_tsw (Y := m_X10_joined) (pc := 1) (tgt := 124) (42 : Int32) hc5 dX10_joined_1 (by decide +kernel) ?_
    refine V_iload_n (Y := m_X10_joined) (pc := 124) 1 dX10_joined_124 rfl ?_
    refine V_iload_n (Y := m_X10_joined) (pc := 125) 2 dX10_joined_125 rfl ?_
    refine V_imul (Y := m_X10_joined) (pc := 126) dX10_joined_126 ?_
    obtain rfl := Option.some.inj hf
    exact V_iret (Y := m_X10_joined) rfl dX10_joined_127
  rw [if_neg hc5] at hf
  by_cases hc6 : x0 = (43 : Int32)
  · rw [if_pos hc6] at hf
    refine V_tsw (Y := m_X10_joined) (pc := 1) (tgt := 116) (43 : Int32) hc6 dX10_joined_1 (by decide +kernel) ?_
    refine V_iload_n (Y := m_X10_joined) (pc := 116) 1 dX10_joined_116 rfl ?_
    refine V_iload_n (Y := m_X10_joined) (pc := 117) 2 dX10_joined_117 rfl ?_
    refine V_iadd (Y := m_X10_joined) (pc := 118) dX10_joined_118 ?_
    obtain rfl := Option.some.inj hf
    exact V_iret (Y := m_X10_joined) rfl dX10_joined_119
  rw [if_neg hc6] at hf
  by_cases hc7 : x0 = (44 : Int32)
  · rw [if_pos hc7] at hf
    refine V_tsw (Y := m_X10_joined) (pc := 1) (tgt := 197) (44 : Int32) hc7 dX10_joined_1 (by decide +kernel) ?_
    exact V_sub [1, 2] rfl (ok_X10_joined_b197  x1 x2 M z  hf)
  rw [if_neg hc7] at hf
  by_cases hc8 : x0 = (45 : Int32)
  · rw [if_pos hc8] at hf
    refine V_tsw (Y := m_X10_joined) (pc := 1) (tgt := 120) (45 : Int32) hc8 dX10_joined_1 (by decide +kernel) ?_
    refine V_iload_n (Y := m_X10_joined) (pc := 120) 1 dX10_joined_120 rfl ?_
    refine V_iload_n (Y := m_X10_joined) (pc := 121) 2 dX10_joined_121 rfl ?_
    refine V_isub (Y := m_X10_joined) (pc := 122) dX10_joined_122 ?_
    obtain rfl := Option.some.inj hf
    exact V_iret (Y := m_X10_joined) rfl dX10_joined_123
  rw [if_neg hc8] at hf
  by_cases hc9 : x0 = (46 : Int32)
  · rw [if_pos hc9] at hf
    refine V_tsw (Y := m_X10_joined) (pc := 1) (tgt := 197) (46 : Int32) hc9 dX10_joined_1 (by decide +kernel) ?_
    exact V_sub [1, 2] rfl (ok_X10_joined_b197  x1 x2 M z  hf)
  rw [if_neg hc9] at hf
  by_cases hc10 : x0 = (47 : Int32)
  · rw [if_pos hc10] at hf
    refine V_tsw (Y := m_X10_joined) (pc := 1) (tgt := 128) (47 : Int32) hc10 dX10_joined_1 (by decide +kernel) ?_
    refine V_iload_n (Y := m_X10_joined) (pc := 128) 2 dX10_joined_128 rfl ?_
    refine V_if_ne (Y := m_X10_joined) (pc := 129) (tgt := 136) dX10_joined_129 (by decide +kernel) hf (fun hf => ?_) (fun hf => ?_)
    · refine V_iload_n (Y := m_X10_joined) (pc := 136) 2 dX10_joined_136 rfl ?_
      refine V_iconst (Y := m_X10_joined) (pc := 137) (x := (-1 : Int32)) dX10_joined_137 (by decide +kernel) ?_
      refine V_icmp_ne (Y := m_X10_joined) (pc := 138) (tgt := 146) dX10_joined_138 (by decide +kernel) hf (fun hf => ?_) (fun hf => ?_)
      · refine V_iload_n (Y := m_X10_joined) (pc := 146) 1 dX10_joined_146 rfl ?_
        refine V_iload_n (Y := m_X10_joined) (pc := 147) 2 dX10_joined_147 rfl ?_
        obtain ⟨hc11, hf⟩ := g_ifn hf
        refine V_idiv (Y := m_X10_joined) (pc := 148) dX10_joined_148 hc11 ?_
        obtain rfl := Option.some.inj hf
        exact V_iret (Y := m_X10_joined) rfl dX10_joined_149
      · refine V_iload_n (Y := m_X10_joined) (pc := 141) 1 dX10_joined_141 rfl ?_
        refine V_ineg (Y := m_X10_joined) (pc := 142) dX10_joined_142 ?_
        refine V_goto (Y := m_X10_joined) (pc := 143) (tgt := 149) dX10_joined_143 (by decide +kernel) ?_
        obtain rfl := Option.some.inj hf
        exact V_iret (Y := m_X10_joined) rfl dX10_joined_149
    · refine V_iconst (Y := m_X10_joined) (pc := 132) (x := (0 : Int32)) dX10_joined_132 (by decide +kernel) ?_
      refine V_goto (Y := m_X10_joined) (pc := 133) (tgt := 149) dX10_joined_133 (by decide +kernel) ?_
      obtain rfl := Option.some.inj hf
      exact V_iret (Y := m_X10_joined) rfl dX10_joined_149
  rw [if_neg hc10] at hf
  by_cases hc12 : x0 = (48 : Int32)
  · rw [if_pos hc12] at hf
    refine V_tsw (Y := m_X10_joined) (pc := 1) (tgt := 197) (48 : Int32) hc12 dX10_joined_1 (by decide +kernel) ?_
    exact V_sub [1, 2] rfl (ok_X10_joined_b197  x1 x2 M z  hf)
  rw [if_neg hc12] at hf
  by_cases hc13 : x0 = (49 : Int32)
  · rw [if_pos hc13] at hf
    refine V_tsw (Y := m_X10_joined) (pc := 1) (tgt := 197) (49 : Int32) hc13 dX10_joined_1 (by decide +kernel) ?_
    exact V_sub [1, 2] rfl (ok_X10_joined_b197  x1 x2 M z  hf)
  rw [if_neg hc13] at hf
  by_cases hc14 : x0 = (50 : Int32)
  · rw [if_pos hc14] at hf
    refine V_tsw (Y := m_X10_joined) (pc := 1) (tgt := 197) (50 : Int32) hc14 dX10_joined_1 (by decide +kernel) ?_
    exact V_sub [1, 2] rfl (ok_X10_joined_b197  x1 x2 M z  hf)
  rw [if_neg hc14] at hf
  by_cases hc15 : x0 = (51 : Int32)
  · rw [if_pos hc15] at hf
    refine V_tsw (Y := m_X10_joined) (pc := 1) (tgt := 197) (51 : Int32) hc15 dX10_joined_1 (by decide +kernel) ?_
    exact V_sub [1, 2] rfl (ok_X10_joined_b197  x1 x2 M z  hf)
  rw [if_neg hc15] at hf
  by_cases hc16 : x0 = (52 : Int32)
  · rw [if_pos hc16] at hf
    refine V_tsw (Y := m_X10_joined) (pc := 1) (tgt := 197) (52 : Int32) hc16 dX10_joined_1 (by decide +kernel) ?_
    exact V_sub [1, 2] rfl (ok_X10_joined_b197  x1 x2 M z  hf)
  rw [if_neg hc16] at hf
  by_cases hc17 : x0 = (53 : Int32)
  · rw [if_pos hc17] at hf
    refine V_tsw (Y := m_X10_joined) (pc := 1) (tgt := 197) (53 : Int32) hc17 dX10_joined_1 (by decide +kernel) ?_
    exact V_sub [1, 2] rfl (ok_X10_joined_b197  x1 x2 M z  hf)
  rw [if_neg hc17] at hf
  by_cases hc18 : x0 = (54 : Int32)
  · rw [if_pos hc18] at hf
    refine V_tsw (Y := m_X10_joined) (pc := 1) (tgt := 197) (54 : Int32) hc18 dX10_joined_1 (by decide +kernel) ?_
    exact V_sub [1, 2] rfl (ok_X10_joined_b197  x1 x2 M z  hf)
  rw [if_neg hc18] at hf
  by_cases hc19 : x0 = (55 : Int32)
  · rw [if_pos hc19] at hf
    refine V_tsw (Y := m_X10_joined) (pc := 1) (tgt := 197) (55 : Int32) hc19 dX10_joined_1 (by decide +kernel) ?_
    exact V_sub [1, 2] rfl (ok_X10_joined_b197  x1 x2 M z  hf)
  rw [if_neg hc19] at hf
  by_cases hc20 : x0 = (56 : Int32)
  · rw [if_pos hc20] at hf
    refine V_tsw (Y := m_X10_joined) (pc := 1) (tgt := 197) (56 : Int32) hc20 dX10_joined_1 (by decide +kernel) ?_
    exact V_sub [1, 2] rfl (ok_X10_joined_b197  x1 x2 M z  hf)
  rw [if_neg hc20] at hf
  by_cases hc21 : x0 = (57 : Int32)
  · rw [if_pos hc21] at hf
    refine V_tsw (Y := m_X10_joined) (pc := 1) (tgt := 197) (57 : Int32) hc21 dX10_joined_1 (by decide +kernel) ?_
    exact V_sub [1, 2] rfl (ok_X10_joined_b197  x1 x2 M z  hf)
  rw [if_neg hc21] at hf
  by_cases hc22 : x0 = (58 : Int32)
  · rw [if_pos hc22] at hf
    refine V_tsw (Y := m_X10_joined) (pc := 1) (tgt := 197) (58 : Int32) hc22 dX10_joined_1 (by decide +kernel) ?_
    exact V_sub [1, 2] rfl (ok_X10_joined_b197  x1 x2 M z  hf)
  rw [if_neg hc22] at hf
  by_cases hc23 : x0 = (59 : Int32)
  · rw [if_pos hc23] at hf
    refine V_tsw (Y := m_X10_joined) (pc := 1) (tgt := 197) (59 : Int32) hc23 dX10_joined_1 (by decide +kernel) ?_
    exact V_sub [1, 2] rfl (ok_X10_joined_b197  x1 x2 M z  hf)
  rw [if_neg hc23] at hf
  by_cases hc24 : x0 = (60 : Int32)
  · rw [if_pos hc24] at hf
    refine V_tsw (Y := m_X10_joined) (pc := 1) (tgt := 150) (60 : Int32) hc24 dX10_joined_1 (by decide +kernel) ?_
    refine V_iload_n (Y := m_X10_joined) (pc := 150) 1 dX10_joined_150 rfl ?_
    refine V_iload_n (Y := m_X10_joined) (pc := 151) 2 dX10_joined_151 rfl ?_
    refine V_icmp_ge (Y := m_X10_joined) (pc := 152) (tgt := 159) dX10_joined_152 (by decide +kernel) hf (fun hf => ?_) (fun hf => ?_)
    · refine V_iconst (Y := m_X10_joined) (pc := 159) (x := (0 : Int32)) dX10_joined_159 (by decide +kernel) ?_
      obtain rfl := Option.some.inj hf
      exact V_iret (Y := m_X10_joined) rfl dX10_joined_160
    · refine V_iconst (Y := m_X10_joined) (pc := 155) (x := (1 : Int32)) dX10_joined_155 (by decide +kernel) ?_
      refine V_goto (Y := m_X10_joined) (pc := 156) (tgt := 160) dX10_joined_156 (by decide +kernel) ?_
      obtain rfl := Option.some.inj hf
      exact V_iret (Y := m_X10_joined) rfl dX10_joined_160
  rw [if_neg hc24] at hf
  by_cases hc25 : x0 = (61 : Int32)
  · rw [if_pos hc25] at hf
    refine V_tsw (Y := m_X10_joined) (pc := 1) (tgt := 172) (61 : Int32) hc25 dX10_joined_1 (by decide +kernel) ?_
    refine V_iload_n (Y := m_X10_joined) (pc := 172) 1 dX10_joined_172 rfl ?_
    refine V_iload_n (Y := m_X10_joined) (pc := 173) 2 dX10_joined_173 rfl ?_
    refine V_icmp_ne (Y := m_X10_joined) (pc := 174) (tgt := 181) dX10_joined_174 (by decide +kernel) hf (fun hf => ?_) (fun hf => ?_)
    · refine V_iconst (Y := m_X10_joined) (pc := 181) (x := (0 : Int32)) dX10_joined_181 (by decide +kernel) ?_
      obtain rfl := Option.some.inj hf
      exact V_iret (Y := m_X10_joined) rfl dX10_joined_182
    · refine V_iconst (Y := m_X10_joined) (pc := 177) (x := (1 : Int32)) dX10_joined_177 (by decide +kernel) ?_
      refine V_goto (Y := m_X10_joined) (pc := 178) (tgt := 182) dX10_joined_178 (by decide +kernel) ?_
      obtain rfl := Option.some.inj hf
      exact V_iret (Y := m_X10_joined) rfl dX10_joined_182
  rw [if_neg hc25] at hf
  by_cases hc26 : x0 = (62 : Int32)
  · rw [if_pos hc26] at hf
    refine V_tsw (Y := m_X10_joined) (pc := 1) (tgt := 161) (62 : Int32) hc26 dX10_joined_1 (by decide +kernel) ?_
    refine V_iload_n (Y := m_X10_joined) (pc := 161) 1 dX10_joined_161 rfl ?_
    refine V_iload_n (Y := m_X10_joined) (pc := 162) 2 dX10_joined_162 rfl ?_
    refine V_icmp_le (Y := m_X10_joined) (pc := 163) (tgt := 170) dX10_joined_163 (by decide +kernel) hf (fun hf => ?_) (fun hf => ?_)
    · refine V_iconst (Y := m_X10_joined) (pc := 170) (x := (0 : Int32)) dX10_joined_170 (by decide +kernel) ?_
      obtain rfl := Option.some.inj hf
      exact V_iret (Y := m_X10_joined) rfl dX10_joined_171
    · refine V_iconst (Y := m_X10_joined) (pc := 166) (x := (1 : Int32)) dX10_joined_166 (by decide +kernel) ?_
      refine V_goto (Y := m_X10_joined) (pc := 167) (tgt := 171) dX10_joined_167 (by decide +kernel) ?_
      obtain rfl := Option.some.inj hf
      exact V_iret (Y := m_X10_joined) rfl dX10_joined_171
  rw [if_neg hc26] at hf
  refine V_tswO (Y := m_X10_joined) (pc := 1) (tgt := 197) [(38 : Int32), (39 : Int32), (40 : Int32), (41 : Int32), (42 : Int32), (43 : Int32), (44 : Int32), (45 : Int32), (46 : Int32), (47 : Int32), (48 : Int32), (49 : Int32), (50 : Int32), (51 : Int32), (52 : Int32), (53 : Int32), (54 : Int32), (55 : Int32), (56 : Int32), (57 : Int32), (58 : Int32), (59 : Int32), (60 : Int32), (61 : Int32), (62 : Int32)] (List.forall_mem_cons.mpr ⟨hc1, (List.forall_mem_cons.mpr ⟨hc2, (List.forall_mem_cons.mpr ⟨hc3, (List.forall_mem_cons.mpr ⟨hc4, (List.forall_mem_cons.mpr ⟨hc5, (List.forall_mem_cons.mpr ⟨hc6, (List.forall_mem_cons.mpr ⟨hc7, (List.forall_mem_cons.mpr ⟨hc8, (List.forall_mem_cons.mpr ⟨hc9, (List.forall_mem_cons.mpr ⟨hc10, (List.forall_mem_cons.mpr ⟨hc12, (List.forall_mem_cons.mpr ⟨hc13, (List.forall_mem_cons.mpr ⟨hc14, (List.forall_mem_cons.mpr ⟨hc15, (List.forall_mem_cons.mpr ⟨hc16, (List.forall_mem_cons.mpr ⟨hc17, (List.forall_mem_cons.mpr ⟨hc18, (List.forall_mem_cons.mpr ⟨hc19, (List.forall_mem_cons.mpr ⟨hc20, (List.forall_mem_cons.mpr ⟨hc21, (List.forall_mem_cons.mpr ⟨hc22, (List.forall_mem_cons.mpr ⟨hc23, (List.forall_mem_cons.mpr ⟨hc24, (List.forall_mem_cons.mpr ⟨hc25, (List.forall_mem_cons.mpr ⟨hc26, (fun _ h => absurd h List.not_mem_nil)⟩)⟩)⟩)⟩)⟩)⟩)⟩)⟩)⟩)⟩)⟩)⟩)⟩)⟩)⟩)⟩)⟩)⟩)⟩)⟩)⟩)⟩)⟩)⟩)⟩) dX10_joined_1 (by decide +kernel) (by decide +kernel) ?_
  exact V_sub [1, 2] rfl (ok_X10_joined_b197  x1 x2 M z  hf)
def f_X10_joined (x0 : Int32) (x1 : Int32) (x2 : Int32) (M : Mem) : Option (Int32 × Mem) := f_X10_joined_b0 x0 x1 x2 M
set_option maxRecDepth 20000 in
set_option maxHeartbeats 4000000 in
theorem ok_X10_joined {l : Launch} {g : Gam} {b : Nat} : ∀ (x0 : Int32) (x1 : Int32) (x2 : Int32) (M : Mem) (z : Int32 × Mem), f_X10_joined x0 x1 x2 M = some z → Cn l g (wM b) m_X10_joined [.int x0, .int x1, .int x2] M (some (.int z.1)) z.2 := fun x0 x1 x2 M z  hf => Cn_of (by decide +kernel) (Nat.le_of_ble_eq_true rfl) (V_sub [0, 1, 2] rfl (ok_X10_joined_b0 x0 x1 x2 M z  hf))

abbrev m_X10_worked : Mth := (yX10_worked, cX10_worked, 6, some .int, 2)
theorem yf_X10_worked : YF m_X10_worked 1 := ⟨tw_1273, tw_75, by decide +kernel, by decide +kernel⟩
def f_X10_worked_b163   (M : Mem) : Option (Int32 × Mem) :=
  some ((M 14 0), M)
set_option maxRecDepth 20000 in
set_option maxHeartbeats 4000000 in
theorem ok_X10_worked_b163 {l : Launch} {g : Gam} {b : Nat}    (M : Mem) (z : Int32 × Mem)  (hf : f_X10_worked_b163  M = some z) : V l g (wM b) m_X10_worked 163 [(0, .ref (b + 0))] [] M (some (.int z.1)) z.2 := by
  unfold f_X10_worked_b163 at hf
  refine V_aload_n (Y := m_X10_worked) (pc := 163) 0 dX10_worked_163 rfl ?_
  refine V_grL (Y := m_X10_worked) (pc := 164) (x := 14) 25 kX10 sM_0 (by decide +kernel) rfl rfl tw_1095 dX10_worked_164 ?_
  refine V_iconst (Y := m_X10_worked) (pc := 167) (x := (0 : Int32)) dX10_worked_167 (by decide +kernel) ?_
  refine V_ialdL (Y := m_X10_worked) (pc := 168) (j := 0) sM_14 (by decide +kernel) rfl dX10_worked_168 ?_
  obtain rfl := Option.some.inj hf
  exact V_iret (Y := m_X10_worked) rfl dX10_worked_169
def f_X10_worked_b157 (k4 : Int32 → Int32 → Int32 → Mem → Option (Int32 × Mem)) (x1 : Int32) (x2 : Int32) (x3 : Int32) (M : Mem) : Option (Int32 × Mem) :=
  k4 x1 x2 (x3 + (1 : Int32)) M
set_option maxRecDepth 20000 in
set_option maxHeartbeats 4000000 in
theorem ok_X10_worked_b157 {l : Launch} {g : Gam} {b : Nat} (k4 : Int32 → Int32 → Int32 → Mem → Option (Int32 × Mem)) (hk4 : ∀ (x1 : Int32) (x2 : Int32) (x3 : Int32) (M : Mem) (z : Int32 × Mem), k4 x1 x2 x3 M = some z → V l g (wM b) m_X10_worked 4 [(0, .ref (b + 0)), (1, .int x1), (2, .int x2), (3, .int x3)] [] M (some (.int z.1)) z.2) (x1 : Int32) (x2 : Int32) (x3 : Int32) (M : Mem) (z : Int32 × Mem)  (hf : f_X10_worked_b157 k4 x1 x2 x3 M = some z) : V l g (wM b) m_X10_worked 157 [(0, .ref (b + 0)), (1, .int x1), (2, .int x2), (3, .int x3)] [] M (some (.int z.1)) z.2 := by
  unfold f_X10_worked_b157 at hf
  refine V_iinc (Y := m_X10_worked) (pc := 157) (y := (x3 + (1 : Int32))) 3 [(3, .int (x3 + (1 : Int32))), (0, .ref (b + 0)), (1, .int x1), (2, .int x2)] dX10_worked_157 rfl rfl (by decide +kernel) rfl ?_
  refine V_goto (Y := m_X10_worked) (pc := 160) (tgt := 4) dX10_worked_160 (by decide +kernel) ?_
  exact V_sub [1, 2, 3, 0] rfl (hk4 x1 x2 (x3 + (1 : Int32)) M z  hf)
def f_X10_worked_b123 (k4 : Int32 → Int32 → Int32 → Mem → Option (Int32 × Mem)) (x1 : Int32) (x2 : Int32) (x3 : Int32) (s0 : Int32) (s1 : Int32) (M : Mem) : Option (Int32 × Mem) :=
  if ixb s1 100 = true then
  f_X10_worked_b157 k4 x1 x2 x3 (mset M 14 (ix s1) s0)
  else none
set_option maxRecDepth 20000 in
set_option maxHeartbeats 4000000 in
theorem ok_X10_worked_b123 {l : Launch} {g : Gam} {b : Nat} (k4 : Int32 → Int32 → Int32 → Mem → Option (Int32 × Mem)) (hk4 : ∀ (x1 : Int32) (x2 : Int32) (x3 : Int32) (M : Mem) (z : Int32 × Mem), k4 x1 x2 x3 M = some z → V l g (wM b) m_X10_worked 4 [(0, .ref (b + 0)), (1, .int x1), (2, .int x2), (3, .int x3)] [] M (some (.int z.1)) z.2) (x1 : Int32) (x2 : Int32) (x3 : Int32) (s0 : Int32) (s1 : Int32) (M : Mem) (z : Int32 × Mem)  (hf : f_X10_worked_b123 k4 x1 x2 x3 s0 s1 M = some z) : V l g (wM b) m_X10_worked 123 [(0, .ref (b + 0)), (1, .int x1), (2, .int x2), (3, .int x3)] [.int s0, .int s1, .ref (b + 14)] M (some (.int z.1)) z.2 := by
  unfold f_X10_worked_b123 at hf
  obtain ⟨hi1, hf⟩ := g_if hf
  refine V_iast (Y := m_X10_worked) (pc := 123) sM_14 hi1 dX10_worked_123 ?_
  refine V_goto (Y := m_X10_worked) (pc := 124) (tgt := 157) dX10_worked_124 (by decide +kernel) ?_
  exact V_sub [0, 1, 2, 3] rfl (ok_X10_worked_b157 k4 hk4 x1 x2 x3 (mset M 14 (ix s1) s0) z  hf)
def f_X10_worked_b86 (k4 : Int32 → Int32 → Int32 → Mem → Option (Int32 × Mem)) (x1 : Int32) (x2 : Int32) (x3 : Int32) (s0 : Int32) (s1 : Int32) (M : Mem) : Option (Int32 × Mem) :=
  if ixb s1 100 = true then
  f_X10_worked_b157 k4 x1 (x2 + (1 : Int32)) x3 (mset M 14 (ix s1) s0)
  else none
set_option maxRecDepth 20000 in
set_option maxHeartbeats 4000000 in
theorem ok_X10_worked_b86 {l : Launch} {g : Gam} {b : Nat} (k4 : Int32 → Int32 → Int32 → Mem → Option (Int32 × Mem)) (hk4 : ∀ (x1 : Int32) (x2 : Int32) (x3 : Int32) (M : Mem) (z : Int32 × Mem), k4 x1 x2 x3 M = some z → V l g (wM b) m_X10_worked 4 [(0, .ref (b + 0)), (1, .int x1), (2, .int x2), (3, .int x3)] [] M (some (.int z.1)) z.2) (x1 : Int32) (x2 : Int32) (x3 : Int32) (s0 : Int32) (s1 : Int32) (M : Mem) (z : Int32 × Mem)  (hf : f_X10_worked_b86 k4 x1 x2 x3 s0 s1 M = some z) : V l g (wM b) m_X10_worked 86 [(0, .ref (b + 0)), (1, .int x1), (2, .int x2), (3, .int x3)] [.int s0, .int s1, .ref (b + 14)] M (some (.int z.1)) z.2 := by
  unfold f_X10_worked_b86 at hf
  obtain ⟨hi1, hf⟩ := g_if hf
  refine V_iast (Y := m_X10_worked) (pc := 86) sM_14 hi1 dX10_worked_86 ?_
  refine V_iinc (Y := m_X10_worked) (pc := 87) (y := (x2 + (1 : Int32))) 2 [(2, .int (x2 + (1 : Int32))), (0, .ref (b + 0)), (1, .int x1), (3, .int x3)] dX10_worked_87 rfl rfl (by decide +kernel) rfl ?_
  refine V_goto (Y := m_X10_worked) (pc := 90) (tgt := 157) dX10_worked_90 (by decide +kernel) ?_
  exact V_sub [1, 2, 0, 3] rfl (ok_X10_worked_b157 k4 hk4 x1 (x2 + (1 : Int32)) x3 (mset M 14 (ix s1) s0) z  hf)
def f_X10_worked_b4  : Nat → Int32 → Int32 → Int32 → Mem → Option (Int32 × Mem)
  | 0, _, _, _, _ => none
  | n + 1, x1, x2, x3, M =>
    (f_X10_textAt x1 M).bind fun q1 =>
    if ixb (q1.1 + (2 : Int32)) 3300 = true then
    if (q1.2 1 (ix (q1.1 + (2 : Int32)))) ≤ x3 then
      f_X10_worked_b163   q1.2
    else
      (f_X10_textAt x1 q1.2).bind fun q3 =>
      if ixb ((q3.1 + (4 : Int32)) + ((2 : Int32) * x3)) 3300 = true then
      (f_X10_textAt x1 q3.2).bind fun q5 =>
      if ixb (((q5.1 + (4 : Int32)) + ((2 : Int32) * x3)) + (1 : Int32)) 3300 = true then
      if (q3.2 1 (ix ((q3.1 + (4 : Int32)) + ((2 : Int32) * x3)))) = (2 : Int32) then
        if (q5.2 1 (ix (((q5.1 + (4 : Int32)) + ((2 : Int32) * x3)) + (1 : Int32)))) = (33 : Int32) then
          if ixb (x2 - (1 : Int32)) 100 = true then
          if (q5.2 14 (ix (x2 - (1 : Int32)))) = 0 then
            f_X10_worked_b123 (f_X10_worked_b4  n) x1 x2 x3 (1 : Int32) (x2 - (1 : Int32)) q5.2
          else
            f_X10_worked_b123 (f_X10_worked_b4  n) x1 x2 x3 (0 : Int32) (x2 - (1 : Int32)) q5.2
          else none
        else
          if ixb ((x2 + (-1 : Int32)) - (1 : Int32)) 100 = true then
          if ixb (x2 + (-1 : Int32)) 100 = true then
          (f_X10_joined (q5.2 1 (ix (((q5.1 + (4 : Int32)) + ((2 : Int32) * x3)) + (1 : Int32)))) (q5.2 14 (ix ((x2 + (-1 : Int32)) - (1 : Int32)))) (q5.2 14 (ix (x2 + (-1 : Int32)))) q5.2).bind fun q9 =>
          if ixb ((x2 + (-1 : Int32)) - (1 : Int32)) 100 = true then
          f_X10_worked_b157 (f_X10_worked_b4  n) x1 (x2 + (-1 : Int32)) x3 (mset q9.2 14 (ix ((x2 + (-1 : Int32)) - (1 : Int32))) q9.1)
          else none
          else none
          else none
      else
        if (q3.2 1 (ix ((q3.1 + (4 : Int32)) + ((2 : Int32) * x3)))) = 0 then
          f_X10_worked_b86 (f_X10_worked_b4  n) x1 x2 x3 (q5.2 1 (ix (((q5.1 + (4 : Int32)) + ((2 : Int32) * x3)) + (1 : Int32)))) x2 q5.2
        else
          if ixb (q5.2 1 (ix (((q5.1 + (4 : Int32)) + ((2 : Int32) * x3)) + (1 : Int32)))) 128 = true then
          f_X10_worked_b86 (f_X10_worked_b4  n) x1 x2 x3 (q5.2 13 (ix (q5.2 1 (ix (((q5.1 + (4 : Int32)) + ((2 : Int32) * x3)) + (1 : Int32)))))) x2 q5.2
          else none
      else none
      else none
    else none
set_option maxRecDepth 20000 in
set_option maxHeartbeats 4000000 in
theorem ok_X10_worked_b4 {l : Launch} {g : Gam} {b : Nat}   : ∀ (n : Nat) (x1 : Int32) (x2 : Int32) (x3 : Int32) (M : Mem) (z : Int32 × Mem), f_X10_worked_b4  n x1 x2 x3 M = some z → V l g (wM b) m_X10_worked 4 [(0, .ref (b + 0)), (1, .int x1), (2, .int x2), (3, .int x3)] [] M (some (.int z.1)) z.2 := by
  intro n
  induction n with
  | zero =>
    intro x1 x2 x3 M z  hf
    cases hf
  | succ n ih =>
    intro x1 x2 x3 M z  hf
    rw [f_X10_worked_b4] at hf
    refine V_iload_n (Y := m_X10_worked) (pc := 4) 3 dX10_worked_4 rfl ?_
    refine V_aload_n (Y := m_X10_worked) (pc := 5) 0 dX10_worked_5 rfl ?_
    refine V_grL (Y := m_X10_worked) (pc := 6) (x := 1) 0 kX10 sM_0 (by decide +kernel) rfl rfl tw_1070 dX10_worked_6 ?_
    refine V_aload_n (Y := m_X10_worked) (pc := 9) 0 dX10_worked_9 rfl ?_
    refine V_iload_n (Y := m_X10_worked) (pc := 10) 1 dX10_worked_10 rfl ?_
    obtain ⟨q1, hq1, hf⟩ := g_bind hf
    refine V_cVi (Y := m_X10_worked) (pc := 11) (As := [.int x1]) yf_X10_textAt kX10 sM_0 (by decide +kernel) (ok_X10_textAt x1 M _  hq1) tw_1268 tw_25 tw_1266 rfl rfl (Nat.le_of_ble_eq_true rfl) dX10_worked_11 ?_
    refine V_iconst (Y := m_X10_worked) (pc := 14) (x := (2 : Int32)) dX10_worked_14 (by decide +kernel) ?_
    refine V_iadd (Y := m_X10_worked) (pc := 15) dX10_worked_15 ?_
    obtain ⟨hi2, hf⟩ := g_if hf
    refine V_iald (Y := m_X10_worked) (pc := 16) sM_1 hi2 dX10_worked_16 ?_
    refine V_icmp_ge (Y := m_X10_worked) (pc := 17) (tgt := 163) dX10_worked_17 (by decide +kernel) hf (fun hf => ?_) (fun hf => ?_)
    · exact V_sub [0] rfl (ok_X10_worked_b163   q1.2 z  hf)
    · refine V_aload_n (Y := m_X10_worked) (pc := 20) 0 dX10_worked_20 rfl ?_
      refine V_grL (Y := m_X10_worked) (pc := 21) (x := 1) 0 kX10 sM_0 (by decide +kernel) rfl rfl tw_1070 dX10_worked_21 ?_
      refine V_aload_n (Y := m_X10_worked) (pc := 24) 0 dX10_worked_24 rfl ?_
      refine V_iload_n (Y := m_X10_worked) (pc := 25) 1 dX10_worked_25 rfl ?_
      obtain ⟨q3, hq3, hf⟩ := g_bind hf
      refine V_cVi (Y := m_X10_worked) (pc := 26) (As := [.int x1]) yf_X10_textAt kX10 sM_0 (by decide +kernel) (ok_X10_textAt x1 q1.2 _  hq3) tw_1268 tw_25 tw_1266 rfl rfl (Nat.le_of_ble_eq_true rfl) dX10_worked_26 ?_
      refine V_iconst (Y := m_X10_worked) (pc := 29) (x := (4 : Int32)) dX10_worked_29 (by decide +kernel) ?_
      refine V_iadd (Y := m_X10_worked) (pc := 30) dX10_worked_30 ?_
      refine V_iconst (Y := m_X10_worked) (pc := 31) (x := (2 : Int32)) dX10_worked_31 (by decide +kernel) ?_
      refine V_iload_n (Y := m_X10_worked) (pc := 32) 3 dX10_worked_32 rfl ?_
      refine V_imul (Y := m_X10_worked) (pc := 33) dX10_worked_33 ?_
      refine V_iadd (Y := m_X10_worked) (pc := 34) dX10_worked_34 ?_
      obtain ⟨hi4, hf⟩ := g_if hf
      refine V_iald (Y := m_X10_worked) (pc := 35) sM_1 hi4 dX10_worked_35 ?_
      refine V_istore (Y := m_X10_worked) (pc := 36) [(4, .int (q3.2 1 (ix ((q3.1 + (4 : Int32)) + ((2 : Int32) * x3))))), (0, .ref (b + 0)), (1, .int x1), (2, .int x2), (3, .int x3)] dX10_worked_36 (by decide +kernel) rfl ?_
      refine V_aload_n (Y := m_X10_worked) (pc := 38) 1 dX10_worked_38 rfl ?_
      refine V_grL (Y := m_X10_worked) (pc := 39) (x := 1) 0 kX10 sM_0 (by decide +kernel) rfl rfl tw_1070 dX10_worked_39 ?_
      refine V_aload_n (Y := m_X10_worked) (pc := 42) 1 dX10_worked_42 rfl ?_
      refine V_iload_n (Y := m_X10_worked) (pc := 43) 2 dX10_worked_43 rfl ?_
      obtain ⟨q5, hq5, hf⟩ := g_bind hf
      refine V_cVi (Y := m_X10_worked) (pc := 44) (As := [.int x1]) yf_X10_textAt kX10 sM_0 (by decide +kernel) (ok_X10_textAt x1 q3.2 _  hq5) tw_1268 tw_25 tw_1266 rfl rfl (Nat.le_of_ble_eq_true rfl) dX10_worked_44 ?_
      refine V_iconst (Y := m_X10_worked) (pc := 47) (x := (4 : Int32)) dX10_worked_47 (by decide +kernel) ?_
      refine V_iadd (Y := m_X10_worked) (pc := 48) dX10_worked_48 ?_
      refine V_iconst (Y := m_X10_worked) (pc := 49) (x := (2 : Int32)) dX10_worked_49 (by decide +kernel) ?_
      refine V_iload_n (Y := m_X10_worked) (pc := 50) 4 dX10_worked_50 rfl ?_
      refine V_imul (Y := m_X10_worked) (pc := 51) dX10_worked_51 ?_
      refine V_iadd (Y := m_X10_worked) (pc := 52) dX10_worked_52 ?_
      refine V_iconst (Y := m_X10_worked) (pc := 53) (x := (1 : Int32)) dX10_worked_53 (by decide +kernel) ?_
      refine V_iadd (Y := m_X10_worked) (pc := 54) dX10_worked_54 ?_
      obtain ⟨hi6, hf⟩ := g_if hf
      refine V_iald (Y := m_X10_worked) (pc := 55) sM_1 hi6 dX10_worked_55 ?_
      refine V_istore (Y := m_X10_worked) (pc := 56) [(5, .int (q5.2 1 (ix (((q5.1 + (4 : Int32)) + ((2 : Int32) * x3)) + (1 : Int32))))), (4, .int (q3.2 1 (ix ((q3.1 + (4 : Int32)) + ((2 : Int32) * x3))))), (0, .ref (b + 0)), (1, .int x1), (2, .int x2), (3, .int x3)] dX10_worked_56 (by decide +kernel) rfl ?_
      refine V_iload (Y := m_X10_worked) (pc := 58) 1 dX10_worked_58 rfl ?_
      refine V_iconst (Y := m_X10_worked) (pc := 60) (x := (2 : Int32)) dX10_worked_60 (by decide +kernel) ?_
      refine V_icmp_eq (Y := m_X10_worked) (pc := 61) (tgt := 93) dX10_worked_61 (by decide +kernel) hf (fun hf => ?_) (fun hf => ?_)
      · refine V_iload (Y := m_X10_worked) (pc := 93) 0 dX10_worked_93 rfl ?_
        refine V_bipush (Y := m_X10_worked) (pc := 95) (x := (33 : Int32)) dX10_worked_95 (by decide +kernel) ?_
        refine V_icmp_ne (Y := m_X10_worked) (pc := 97) (tgt := 127) dX10_worked_97 (by decide +kernel) hf (fun hf => ?_) (fun hf => ?_)
        · refine V_iinc (Y := m_X10_worked) (pc := 127) (y := (x2 + (-1 : Int32))) 4 [(2, .int (x2 + (-1 : Int32))), (5, .int (q5.2 1 (ix (((q5.1 + (4 : Int32)) + ((2 : Int32) * x3)) + (1 : Int32))))), (4, .int (q3.2 1 (ix ((q3.1 + (4 : Int32)) + ((2 : Int32) * x3))))), (0, .ref (b + 0)), (1, .int x1), (3, .int x3)] dX10_worked_127 rfl rfl (by decide +kernel) rfl ?_
          refine V_aload_n (Y := m_X10_worked) (pc := 130) 3 dX10_worked_130 rfl ?_
          refine V_grL (Y := m_X10_worked) (pc := 131) (x := 14) 25 kX10 sM_0 (by decide +kernel) rfl rfl tw_1095 dX10_worked_131 ?_
          refine V_iload_n (Y := m_X10_worked) (pc := 134) 0 dX10_worked_134 rfl ?_
          refine V_iconst (Y := m_X10_worked) (pc := 135) (x := (1 : Int32)) dX10_worked_135 (by decide +kernel) ?_
          refine V_isub (Y := m_X10_worked) (pc := 136) dX10_worked_136 ?_
          refine V_iload (Y := m_X10_worked) (pc := 137) 1 dX10_worked_137 rfl ?_
          refine V_aload_n (Y := m_X10_worked) (pc := 139) 3 dX10_worked_139 rfl ?_
          refine V_grL (Y := m_X10_worked) (pc := 140) (x := 14) 25 kX10 sM_0 (by decide +kernel) rfl rfl tw_1095 dX10_worked_140 ?_
          refine V_iload_n (Y := m_X10_worked) (pc := 143) 0 dX10_worked_143 rfl ?_
          refine V_iconst (Y := m_X10_worked) (pc := 144) (x := (1 : Int32)) dX10_worked_144 (by decide +kernel) ?_
          refine V_isub (Y := m_X10_worked) (pc := 145) dX10_worked_145 ?_
          obtain ⟨hi7, hf⟩ := g_if hf
          refine V_iald (Y := m_X10_worked) (pc := 146) sM_14 hi7 dX10_worked_146 ?_
          refine V_aload_n (Y := m_X10_worked) (pc := 147) 3 dX10_worked_147 rfl ?_
          refine V_grL (Y := m_X10_worked) (pc := 148) (x := 14) 25 kX10 sM_0 (by decide +kernel) rfl rfl tw_1095 dX10_worked_148 ?_
          refine V_iload_n (Y := m_X10_worked) (pc := 151) 0 dX10_worked_151 rfl ?_
          obtain ⟨hi8, hf⟩ := g_if hf
          refine V_iald (Y := m_X10_worked) (pc := 152) sM_14 hi8 dX10_worked_152 ?_
          obtain ⟨q9, hq9, hf⟩ := g_bind hf
          refine V_cSi (Y := m_X10_worked) (pc := 153) (As := [.int (q5.2 1 (ix (((q5.1 + (4 : Int32)) + ((2 : Int32) * x3)) + (1 : Int32)))), .int (q5.2 14 (ix ((x2 + (-1 : Int32)) - (1 : Int32)))), .int (q5.2 14 (ix (x2 + (-1 : Int32))))]) yf_X10_joined (by decide +kernel) (ok_X10_joined (q5.2 1 (ix (((q5.1 + (4 : Int32)) + ((2 : Int32) * x3)) + (1 : Int32)))) (q5.2 14 (ix ((x2 + (-1 : Int32)) - (1 : Int32)))) (q5.2 14 (ix (x2 + (-1 : Int32)))) q5.2 _  hq9) tw_1275 tw_1274 rfl rfl (Nat.le_of_ble_eq_true rfl) dX10_worked_153 ?_
          obtain ⟨hi10, hf⟩ := g_if hf
          refine V_iast (Y := m_X10_worked) (pc := 156) sM_14 hi10 dX10_worked_156 ?_
          exact V_sub [3, 4, 0, 5] rfl (ok_X10_worked_b157 (f_X10_worked_b4  n) ih x1 (x2 + (-1 : Int32)) x3 (mset q9.2 14 (ix ((x2 + (-1 : Int32)) - (1 : Int32))) q9.1) z  hf)
        · refine V_aload_n (Y := m_X10_worked) (pc := 100) 2 dX10_worked_100 rfl ?_
          refine V_grL (Y := m_X10_worked) (pc := 101) (x := 14) 25 kX10 sM_0 (by decide +kernel) rfl rfl tw_1095 dX10_worked_101 ?_
          refine V_iload_n (Y := m_X10_worked) (pc := 104) 4 dX10_worked_104 rfl ?_
          refine V_iconst (Y := m_X10_worked) (pc := 105) (x := (1 : Int32)) dX10_worked_105 (by decide +kernel) ?_
          refine V_isub (Y := m_X10_worked) (pc := 106) dX10_worked_106 ?_
          refine V_aload_n (Y := m_X10_worked) (pc := 107) 2 dX10_worked_107 rfl ?_
          refine V_grL (Y := m_X10_worked) (pc := 108) (x := 14) 25 kX10 sM_0 (by decide +kernel) rfl rfl tw_1095 dX10_worked_108 ?_
          refine V_iload_n (Y := m_X10_worked) (pc := 111) 4 dX10_worked_111 rfl ?_
          refine V_iconst (Y := m_X10_worked) (pc := 112) (x := (1 : Int32)) dX10_worked_112 (by decide +kernel) ?_
          refine V_isub (Y := m_X10_worked) (pc := 113) dX10_worked_113 ?_
          obtain ⟨hi11, hf⟩ := g_if hf
          refine V_iald (Y := m_X10_worked) (pc := 114) sM_14 hi11 dX10_worked_114 ?_
          refine V_if_ne (Y := m_X10_worked) (pc := 115) (tgt := 122) dX10_worked_115 (by decide +kernel) hf (fun hf => ?_) (fun hf => ?_)
          · refine V_iconst (Y := m_X10_worked) (pc := 122) (x := (0 : Int32)) dX10_worked_122 (by decide +kernel) ?_
            exact V_sub [2, 3, 4, 5] rfl (ok_X10_worked_b123 (f_X10_worked_b4  n) ih x1 x2 x3 (0 : Int32) (x2 - (1 : Int32)) q5.2 z  hf)
          · refine V_iconst (Y := m_X10_worked) (pc := 118) (x := (1 : Int32)) dX10_worked_118 (by decide +kernel) ?_
            refine V_goto (Y := m_X10_worked) (pc := 119) (tgt := 123) dX10_worked_119 (by decide +kernel) ?_
            exact V_sub [2, 3, 4, 5] rfl (ok_X10_worked_b123 (f_X10_worked_b4  n) ih x1 x2 x3 (1 : Int32) (x2 - (1 : Int32)) q5.2 z  hf)
      · refine V_aload_n (Y := m_X10_worked) (pc := 64) 2 dX10_worked_64 rfl ?_
        refine V_grL (Y := m_X10_worked) (pc := 65) (x := 14) 25 kX10 sM_0 (by decide +kernel) rfl rfl tw_1095 dX10_worked_65 ?_
        refine V_iload_n (Y := m_X10_worked) (pc := 68) 4 dX10_worked_68 rfl ?_
        refine V_iload (Y := m_X10_worked) (pc := 69) 1 dX10_worked_69 rfl ?_
        refine V_if_ne (Y := m_X10_worked) (pc := 71) (tgt := 79) dX10_worked_71 (by decide +kernel) hf (fun hf => ?_) (fun hf => ?_)
        · refine V_aload_n (Y := m_X10_worked) (pc := 79) 2 dX10_worked_79 rfl ?_
          refine V_grL (Y := m_X10_worked) (pc := 80) (x := 13) 24 kX10 sM_0 (by decide +kernel) rfl rfl tw_1094 dX10_worked_80 ?_
          refine V_iload (Y := m_X10_worked) (pc := 83) 0 dX10_worked_83 rfl ?_
          obtain ⟨hi12, hf⟩ := g_if hf
          refine V_iald (Y := m_X10_worked) (pc := 85) sM_13 hi12 dX10_worked_85 ?_
          exact V_sub [2, 3, 4, 5] rfl (ok_X10_worked_b86 (f_X10_worked_b4  n) ih x1 x2 x3 (q5.2 13 (ix (q5.2 1 (ix (((q5.1 + (4 : Int32)) + ((2 : Int32) * x3)) + (1 : Int32)))))) x2 q5.2 z  hf)
        · refine V_iload (Y := m_X10_worked) (pc := 74) 0 dX10_worked_74 rfl ?_
          refine V_goto (Y := m_X10_worked) (pc := 76) (tgt := 86) dX10_worked_76 (by decide +kernel) ?_
          exact V_sub [2, 3, 4, 5] rfl (ok_X10_worked_b86 (f_X10_worked_b4  n) ih x1 x2 x3 (q5.2 1 (ix (((q5.1 + (4 : Int32)) + ((2 : Int32) * x3)) + (1 : Int32)))) x2 q5.2 z  hf)
def f_X10_worked_b0  (x1 : Int32) (M : Mem) : Option (Int32 × Mem) :=
  f_X10_worked_b4  FU x1 (0 : Int32) (0 : Int32) M
set_option maxRecDepth 20000 in
set_option maxHeartbeats 4000000 in
theorem ok_X10_worked_b0 {l : Launch} {g : Gam} {b : Nat}   (x1 : Int32) (M : Mem) (z : Int32 × Mem)  (hf : f_X10_worked_b0 x1 M = some z) : V l g (wM b) m_X10_worked 0 [(0, .ref (b + 0)), (1, .int x1)] [] M (some (.int z.1)) z.2 := by
  unfold f_X10_worked_b0 at hf
  refine V_iconst (Y := m_X10_worked) (pc := 0) (x := (0 : Int32)) dX10_worked_0 (by decide +kernel) ?_
  refine V_istore_n (Y := m_X10_worked) (pc := 1) [(2, .int (0 : Int32)), (0, .ref (b + 0)), (1, .int x1)] dX10_worked_1 (by decide +kernel) rfl ?_
  refine V_iconst (Y := m_X10_worked) (pc := 2) (x := (0 : Int32)) dX10_worked_2 (by decide +kernel) ?_
  refine V_istore_n (Y := m_X10_worked) (pc := 3) [(3, .int (0 : Int32)), (2, .int (0 : Int32)), (0, .ref (b + 0)), (1, .int x1)] dX10_worked_3 (by decide +kernel) rfl ?_
  exact V_sub [2, 3, 1, 0] rfl (ok_X10_worked_b4  FU x1 (0 : Int32) (0 : Int32) M z  hf)
def f_X10_worked (x1 : Int32) (M : Mem) : Option (Int32 × Mem) := f_X10_worked_b0 x1 M
set_option maxRecDepth 20000 in
set_option maxHeartbeats 4000000 in
theorem ok_X10_worked {l : Launch} {g : Gam} {b : Nat} : ∀ (x1 : Int32) (M : Mem) (z : Int32 × Mem), f_X10_worked x1 M = some z → Cn l g (wM b) m_X10_worked [.ref (b + 0), .int x1] M (some (.int z.1)) z.2 := fun x1 M z  hf => Cn_of (by decide +kernel) (Nat.le_of_ble_eq_true rfl) (V_sub [0, 1] rfl (ok_X10_worked_b0 x1 M z  hf))

abbrev m_X10_byLaw : Mth := (yX10_byLaw, cX10_byLaw, 5, some .int, 3)
theorem yf_X10_byLaw : YF m_X10_byLaw 3 := ⟨tw_1261, tw_75, by decide +kernel, by decide +kernel⟩
def f_X10_byLaw_b0  (x1 : Int32) (x2 : Int32) (x3 : Int32) (M : Mem) : Option (Int32 × Mem) :=
  (f_X10_field x1 (1 : Int32) M).bind fun q1 =>
  (f_X10_counts q1.1 x2 q1.2).bind fun q2 =>
  (f_X10_field x1 (2 : Int32) q2.2).bind fun q3 =>
  (f_X10_field x1 (3 : Int32) (mset q3.2 13 100 q3.1)).bind fun q4 =>
  (f_X10_field x1 (4 : Int32) (mset q4.2 13 97 q4.1)).bind fun q5 =>
  if 0 ≤ q2.1 then
    (f_X10_worked q2.1 (mset q5.2 13 111 q5.1)).bind fun q6 =>
    some (q6.1, q6.2)
  else
    some (x3, (mset q5.2 13 111 q5.1))
set_option maxRecDepth 20000 in
set_option maxHeartbeats 4000000 in
theorem ok_X10_byLaw_b0 {l : Launch} {g : Gam} {b : Nat}   (x1 : Int32) (x2 : Int32) (x3 : Int32) (M : Mem) (z : Int32 × Mem)  (hf : f_X10_byLaw_b0 x1 x2 x3 M = some z) : V l g (wM b) m_X10_byLaw 0 [(0, .ref (b + 0)), (1, .int x1), (2, .int x2), (3, .int x3)] [] M (some (.int z.1)) z.2 := by
  unfold f_X10_byLaw_b0 at hf
  refine V_aload_n (Y := m_X10_byLaw) (pc := 0) 0 dX10_byLaw_0 rfl ?_
  refine V_aload_n (Y := m_X10_byLaw) (pc := 1) 0 dX10_byLaw_1 rfl ?_
  refine V_iload_n (Y := m_X10_byLaw) (pc := 2) 1 dX10_byLaw_2 rfl ?_
  refine V_iconst (Y := m_X10_byLaw) (pc := 3) (x := (1 : Int32)) dX10_byLaw_3 (by decide +kernel) ?_
  obtain ⟨q1, hq1, hf⟩ := g_bind hf
  refine V_cVi (Y := m_X10_byLaw) (pc := 4) (As := [.int x1, .int (1 : Int32)]) yf_X10_field kX10 sM_0 (by decide +kernel) (ok_X10_field x1 (1 : Int32) M _  hq1) tw_1244 tw_20 tw_1242 rfl rfl (Nat.le_of_ble_eq_true rfl) dX10_byLaw_4 ?_
  refine V_iload_n (Y := m_X10_byLaw) (pc := 7) 2 dX10_byLaw_7 rfl ?_
  obtain ⟨q2, hq2, hf⟩ := g_bind hf
  refine V_cVi (Y := m_X10_byLaw) (pc := 8) (As := [.int q1.1, .int x2]) yf_X10_counts kX10 sM_0 (by decide +kernel) (ok_X10_counts q1.1 x2 q1.2 _  hq2) tw_1264 tw_24 tw_1262 rfl rfl (Nat.le_of_ble_eq_true rfl) dX10_byLaw_8 ?_
  refine V_istore (Y := m_X10_byLaw) (pc := 11) [(4, .int q2.1), (0, .ref (b + 0)), (1, .int x1), (2, .int x2), (3, .int x3)] dX10_byLaw_11 (by decide +kernel) rfl ?_
  refine V_aload_n (Y := m_X10_byLaw) (pc := 13) 1 dX10_byLaw_13 rfl ?_
  refine V_grL (Y := m_X10_byLaw) (pc := 14) (x := 13) 24 kX10 sM_0 (by decide +kernel) rfl rfl tw_1094 dX10_byLaw_14 ?_
  refine V_bipush (Y := m_X10_byLaw) (pc := 17) (x := (100 : Int32)) dX10_byLaw_17 (by decide +kernel) ?_
  refine V_aload_n (Y := m_X10_byLaw) (pc := 19) 1 dX10_byLaw_19 rfl ?_
  refine V_iload_n (Y := m_X10_byLaw) (pc := 20) 2 dX10_byLaw_20 rfl ?_
  refine V_iconst (Y := m_X10_byLaw) (pc := 21) (x := (2 : Int32)) dX10_byLaw_21 (by decide +kernel) ?_
  obtain ⟨q3, hq3, hf⟩ := g_bind hf
  refine V_cVi (Y := m_X10_byLaw) (pc := 22) (As := [.int x1, .int (2 : Int32)]) yf_X10_field kX10 sM_0 (by decide +kernel) (ok_X10_field x1 (2 : Int32) q2.2 _  hq3) tw_1244 tw_20 tw_1242 rfl rfl (Nat.le_of_ble_eq_true rfl) dX10_byLaw_22 ?_
  refine V_iastL (Y := m_X10_byLaw) (pc := 25) (j := 100) sM_13 (by decide +kernel) rfl dX10_byLaw_25 ?_
  refine V_aload_n (Y := m_X10_byLaw) (pc := 26) 1 dX10_byLaw_26 rfl ?_
  refine V_grL (Y := m_X10_byLaw) (pc := 27) (x := 13) 24 kX10 sM_0 (by decide +kernel) rfl rfl tw_1094 dX10_byLaw_27 ?_
  refine V_bipush (Y := m_X10_byLaw) (pc := 30) (x := (97 : Int32)) dX10_byLaw_30 (by decide +kernel) ?_
  refine V_aload_n (Y := m_X10_byLaw) (pc := 32) 1 dX10_byLaw_32 rfl ?_
  refine V_iload_n (Y := m_X10_byLaw) (pc := 33) 2 dX10_byLaw_33 rfl ?_
  refine V_iconst (Y := m_X10_byLaw) (pc := 34) (x := (3 : Int32)) dX10_byLaw_34 (by decide +kernel) ?_
  obtain ⟨q4, hq4, hf⟩ := g_bind hf
  refine V_cVi (Y := m_X10_byLaw) (pc := 35) (As := [.int x1, .int (3 : Int32)]) yf_X10_field kX10 sM_0 (by decide +kernel) (ok_X10_field x1 (3 : Int32) (mset q3.2 13 100 q3.1) _  hq4) tw_1244 tw_20 tw_1242 rfl rfl (Nat.le_of_ble_eq_true rfl) dX10_byLaw_35 ?_
  refine V_iastL (Y := m_X10_byLaw) (pc := 38) (j := 97) sM_13 (by decide +kernel) rfl dX10_byLaw_38 ?_
  refine V_aload_n (Y := m_X10_byLaw) (pc := 39) 1 dX10_byLaw_39 rfl ?_
  refine V_grL (Y := m_X10_byLaw) (pc := 40) (x := 13) 24 kX10 sM_0 (by decide +kernel) rfl rfl tw_1094 dX10_byLaw_40 ?_
  refine V_bipush (Y := m_X10_byLaw) (pc := 43) (x := (111 : Int32)) dX10_byLaw_43 (by decide +kernel) ?_
  refine V_aload_n (Y := m_X10_byLaw) (pc := 45) 1 dX10_byLaw_45 rfl ?_
  refine V_iload_n (Y := m_X10_byLaw) (pc := 46) 2 dX10_byLaw_46 rfl ?_
  refine V_iconst (Y := m_X10_byLaw) (pc := 47) (x := (4 : Int32)) dX10_byLaw_47 (by decide +kernel) ?_
  obtain ⟨q5, hq5, hf⟩ := g_bind hf
  refine V_cVi (Y := m_X10_byLaw) (pc := 48) (As := [.int x1, .int (4 : Int32)]) yf_X10_field kX10 sM_0 (by decide +kernel) (ok_X10_field x1 (4 : Int32) (mset q4.2 13 97 q4.1) _  hq5) tw_1244 tw_20 tw_1242 rfl rfl (Nat.le_of_ble_eq_true rfl) dX10_byLaw_48 ?_
  refine V_iastL (Y := m_X10_byLaw) (pc := 51) (j := 111) sM_13 (by decide +kernel) rfl dX10_byLaw_51 ?_
  refine V_iload (Y := m_X10_byLaw) (pc := 52) 0 dX10_byLaw_52 rfl ?_
  refine V_if_ge (Y := m_X10_byLaw) (pc := 54) (tgt := 61) dX10_byLaw_54 (by decide +kernel) hf (fun hf => ?_) (fun hf => ?_)
  · refine V_aload_n (Y := m_X10_byLaw) (pc := 61) 1 dX10_byLaw_61 rfl ?_
    refine V_iload (Y := m_X10_byLaw) (pc := 62) 0 dX10_byLaw_62 rfl ?_
    obtain ⟨q6, hq6, hf⟩ := g_bind hf
    refine V_cVi (Y := m_X10_byLaw) (pc := 64) (As := [.int q2.1]) yf_X10_worked kX10 sM_0 (by decide +kernel) (ok_X10_worked q2.1 (mset q5.2 13 111 q5.1) _  hq6) tw_1272 tw_26 tw_1270 rfl rfl (Nat.le_of_ble_eq_true rfl) dX10_byLaw_64 ?_
    obtain rfl := Option.some.inj hf
    exact V_iret (Y := m_X10_byLaw) rfl dX10_byLaw_67
  · refine V_iload_n (Y := m_X10_byLaw) (pc := 57) 4 dX10_byLaw_57 rfl ?_
    refine V_goto (Y := m_X10_byLaw) (pc := 58) (tgt := 67) dX10_byLaw_58 (by decide +kernel) ?_
    obtain rfl := Option.some.inj hf
    exact V_iret (Y := m_X10_byLaw) rfl dX10_byLaw_67
def f_X10_byLaw (x1 : Int32) (x2 : Int32) (x3 : Int32) (M : Mem) : Option (Int32 × Mem) := f_X10_byLaw_b0 x1 x2 x3 M
set_option maxRecDepth 20000 in
set_option maxHeartbeats 4000000 in
theorem ok_X10_byLaw {l : Launch} {g : Gam} {b : Nat} : ∀ (x1 : Int32) (x2 : Int32) (x3 : Int32) (M : Mem) (z : Int32 × Mem), f_X10_byLaw x1 x2 x3 M = some z → Cn l g (wM b) m_X10_byLaw [.ref (b + 0), .int x1, .int x2, .int x3] M (some (.int z.1)) z.2 := fun x1 x2 x3 M z  hf => Cn_of (by decide +kernel) (Nat.le_of_ble_eq_true rfl) (V_sub [0, 1, 2, 3] rfl (ok_X10_byLaw_b0 x1 x2 x3 M z  hf))

abbrev m_X10_logOf : Mth := (yX10_logOf, cX10_logOf, 2, some .int, 4)
theorem yf_X10_logOf : YF m_X10_logOf 1 := ⟨tw_1257, tw_75, by decide +kernel, by decide +kernel⟩
def f_X10_logOf_b0  (x1 : Int32) (M : Mem) : Option (Int32 × Mem) :=
  (f_X10_byLaw x1 (0 : Int32) (100 : Int32) M).bind fun q1 =>
  (f_X10_heldIn (q1.1).toInt64 (1 : Int32) (400 : Int32) q1.2).bind fun q2 =>
  some (q2.1, q2.2)
set_option maxRecDepth 20000 in
set_option maxHeartbeats 4000000 in
theorem ok_X10_logOf_b0 {l : Launch} {g : Gam} {b : Nat}   (x1 : Int32) (M : Mem) (z : Int32 × Mem)  (hf : f_X10_logOf_b0 x1 M = some z) : V l g (wM b) m_X10_logOf 0 [(0, .ref (b + 0)), (1, .int x1)] [] M (some (.int z.1)) z.2 := by
  unfold f_X10_logOf_b0 at hf
  refine V_aload_n (Y := m_X10_logOf) (pc := 0) 0 dX10_logOf_0 rfl ?_
  refine V_iload_n (Y := m_X10_logOf) (pc := 1) 1 dX10_logOf_1 rfl ?_
  refine V_iconst (Y := m_X10_logOf) (pc := 2) (x := (0 : Int32)) dX10_logOf_2 (by decide +kernel) ?_
  refine V_bipush (Y := m_X10_logOf) (pc := 3) (x := (100 : Int32)) dX10_logOf_3 (by decide +kernel) ?_
  obtain ⟨q1, hq1, hf⟩ := g_bind hf
  refine V_cVi (Y := m_X10_logOf) (pc := 5) (As := [.int x1, .int (0 : Int32), .int (100 : Int32)]) yf_X10_byLaw kX10 sM_0 (by decide +kernel) (ok_X10_byLaw x1 (0 : Int32) (100 : Int32) M _  hq1) tw_1260 tw_23 tw_1258 rfl rfl (Nat.le_of_ble_eq_true rfl) dX10_logOf_5 ?_
  refine V_i2l (Y := m_X10_logOf) (pc := 8) dX10_logOf_8 ?_
  refine V_iconst (Y := m_X10_logOf) (pc := 9) (x := (1 : Int32)) dX10_logOf_9 (by decide +kernel) ?_
  refine V_sipush (Y := m_X10_logOf) (pc := 10) (x := (400 : Int32)) dX10_logOf_10 (by decide +kernel) ?_
  obtain ⟨q2, hq2, hf⟩ := g_bind hf
  refine V_cSi (Y := m_X10_logOf) (pc := 13) (As := [.long (q1.1).toInt64, .int (1 : Int32), .int (400 : Int32)]) yf_X10_heldIn (by decide +kernel) (ok_X10_heldIn (q1.1).toInt64 (1 : Int32) (400 : Int32) q1.2 _  hq2) tw_1278 tw_1277 rfl rfl (Nat.le_of_ble_eq_true rfl) dX10_logOf_13 ?_
  obtain rfl := Option.some.inj hf
  exact V_iret (Y := m_X10_logOf) rfl dX10_logOf_16
def f_X10_logOf (x1 : Int32) (M : Mem) : Option (Int32 × Mem) := f_X10_logOf_b0 x1 M
set_option maxRecDepth 20000 in
set_option maxHeartbeats 4000000 in
theorem ok_X10_logOf {l : Launch} {g : Gam} {b : Nat} : ∀ (x1 : Int32) (M : Mem) (z : Int32 × Mem), f_X10_logOf x1 M = some z → Cn l g (wM b) m_X10_logOf [.ref (b + 0), .int x1] M (some (.int z.1)) z.2 := fun x1 M z  hf => Cn_of (by decide +kernel) (Nat.le_of_ble_eq_true rfl) (V_sub [0, 1] rfl (ok_X10_logOf_b0 x1 M z  hf))

abbrev m_X10_needleOf : Mth := (yX10_needleOf, cX10_needleOf, 2, some .int, 4)
theorem yf_X10_needleOf : YF m_X10_needleOf 1 := ⟨tw_1283, tw_75, by decide +kernel, by decide +kernel⟩
def f_X10_needleOf_b0  (x1 : Int32) (M : Mem) : Option (Int32 × Mem) :=
  (f_X10_byLaw x1 (1 : Int32) (0 : Int32) M).bind fun q1 =>
  (f_X10_heldIn (q1.1).toInt64 (-200 : Int32) (200 : Int32) q1.2).bind fun q2 =>
  some (q2.1, q2.2)
set_option maxRecDepth 20000 in
set_option maxHeartbeats 4000000 in
theorem ok_X10_needleOf_b0 {l : Launch} {g : Gam} {b : Nat}   (x1 : Int32) (M : Mem) (z : Int32 × Mem)  (hf : f_X10_needleOf_b0 x1 M = some z) : V l g (wM b) m_X10_needleOf 0 [(0, .ref (b + 0)), (1, .int x1)] [] M (some (.int z.1)) z.2 := by
  unfold f_X10_needleOf_b0 at hf
  refine V_aload_n (Y := m_X10_needleOf) (pc := 0) 0 dX10_needleOf_0 rfl ?_
  refine V_iload_n (Y := m_X10_needleOf) (pc := 1) 1 dX10_needleOf_1 rfl ?_
  refine V_iconst (Y := m_X10_needleOf) (pc := 2) (x := (1 : Int32)) dX10_needleOf_2 (by decide +kernel) ?_
  refine V_iconst (Y := m_X10_needleOf) (pc := 3) (x := (0 : Int32)) dX10_needleOf_3 (by decide +kernel) ?_
  obtain ⟨q1, hq1, hf⟩ := g_bind hf
  refine V_cVi (Y := m_X10_needleOf) (pc := 4) (As := [.int x1, .int (1 : Int32), .int (0 : Int32)]) yf_X10_byLaw kX10 sM_0 (by decide +kernel) (ok_X10_byLaw x1 (1 : Int32) (0 : Int32) M _  hq1) tw_1260 tw_23 tw_1258 rfl rfl (Nat.le_of_ble_eq_true rfl) dX10_needleOf_4 ?_
  refine V_i2l (Y := m_X10_needleOf) (pc := 7) dX10_needleOf_7 ?_
  refine V_sipush (Y := m_X10_needleOf) (pc := 8) (x := (-200 : Int32)) dX10_needleOf_8 (by decide +kernel) ?_
  refine V_sipush (Y := m_X10_needleOf) (pc := 11) (x := (200 : Int32)) dX10_needleOf_11 (by decide +kernel) ?_
  obtain ⟨q2, hq2, hf⟩ := g_bind hf
  refine V_cSi (Y := m_X10_needleOf) (pc := 14) (As := [.long (q1.1).toInt64, .int (-200 : Int32), .int (200 : Int32)]) yf_X10_heldIn (by decide +kernel) (ok_X10_heldIn (q1.1).toInt64 (-200 : Int32) (200 : Int32) q1.2 _  hq2) tw_1278 tw_1277 rfl rfl (Nat.le_of_ble_eq_true rfl) dX10_needleOf_14 ?_
  obtain rfl := Option.some.inj hf
  exact V_iret (Y := m_X10_needleOf) rfl dX10_needleOf_17
def f_X10_needleOf (x1 : Int32) (M : Mem) : Option (Int32 × Mem) := f_X10_needleOf_b0 x1 M
set_option maxRecDepth 20000 in
set_option maxHeartbeats 4000000 in
theorem ok_X10_needleOf {l : Launch} {g : Gam} {b : Nat} : ∀ (x1 : Int32) (M : Mem) (z : Int32 × Mem), f_X10_needleOf x1 M = some z → Cn l g (wM b) m_X10_needleOf [.ref (b + 0), .int x1] M (some (.int z.1)) z.2 := fun x1 M z  hf => Cn_of (by decide +kernel) (Nat.le_of_ble_eq_true rfl) (V_sub [0, 1] rfl (ok_X10_needleOf_b0 x1 M z  hf))

abbrev m_X10_watchOf : Mth := (yX10_watchOf, cX10_watchOf, 4, some .int, 4)
theorem yf_X10_watchOf : YF m_X10_watchOf 1 := ⟨tw_1287, tw_75, by decide +kernel, by decide +kernel⟩
def f_X10_watchOf_b51  (x1 : Int32) (s0 : Int32) (M : Mem) : Option (Int32 × Mem) :=
  (f_X10_byLaw x1 (2 : Int32) (0 : Int32) M).bind fun q1 =>
  (f_X10_heldIn ((q1.1).toInt64 + s0.toInt64) (-200 : Int32) (200 : Int32) q1.2).bind fun q2 =>
  some (q2.1, q2.2)
set_option maxRecDepth 20000 in
set_option maxHeartbeats 4000000 in
theorem ok_X10_watchOf_b51 {l : Launch} {g : Gam} {b : Nat}   (x1 : Int32) (s0 : Int32) (M : Mem) (z : Int32 × Mem)  (hf : f_X10_watchOf_b51 x1 s0 M = some z) : V l g (wM b) m_X10_watchOf 51 [(0, .ref (b + 0)), (1, .int x1)] [.int s0] M (some (.int z.1)) z.2 := by
  unfold f_X10_watchOf_b51 at hf
  refine V_istore_n (Y := m_X10_watchOf) (pc := 51) [(3, .int s0), (0, .ref (b + 0)), (1, .int x1)] dX10_watchOf_51 (by decide +kernel) rfl ?_
  refine V_aload_n (Y := m_X10_watchOf) (pc := 52) 1 dX10_watchOf_52 rfl ?_
  refine V_iload_n (Y := m_X10_watchOf) (pc := 53) 2 dX10_watchOf_53 rfl ?_
  refine V_iconst (Y := m_X10_watchOf) (pc := 54) (x := (2 : Int32)) dX10_watchOf_54 (by decide +kernel) ?_
  refine V_iconst (Y := m_X10_watchOf) (pc := 55) (x := (0 : Int32)) dX10_watchOf_55 (by decide +kernel) ?_
  obtain ⟨q1, hq1, hf⟩ := g_bind hf
  refine V_cVi (Y := m_X10_watchOf) (pc := 56) (As := [.int x1, .int (2 : Int32), .int (0 : Int32)]) yf_X10_byLaw kX10 sM_0 (by decide +kernel) (ok_X10_byLaw x1 (2 : Int32) (0 : Int32) M _  hq1) tw_1260 tw_23 tw_1258 rfl rfl (Nat.le_of_ble_eq_true rfl) dX10_watchOf_56 ?_
  refine V_i2l (Y := m_X10_watchOf) (pc := 59) dX10_watchOf_59 ?_
  refine V_iload_n (Y := m_X10_watchOf) (pc := 60) 0 dX10_watchOf_60 rfl ?_
  refine V_i2l (Y := m_X10_watchOf) (pc := 61) dX10_watchOf_61 ?_
  refine V_ladd (Y := m_X10_watchOf) (pc := 62) dX10_watchOf_62 ?_
  refine V_sipush (Y := m_X10_watchOf) (pc := 63) (x := (-200 : Int32)) dX10_watchOf_63 (by decide +kernel) ?_
  refine V_sipush (Y := m_X10_watchOf) (pc := 66) (x := (200 : Int32)) dX10_watchOf_66 (by decide +kernel) ?_
  obtain ⟨q2, hq2, hf⟩ := g_bind hf
  refine V_cSi (Y := m_X10_watchOf) (pc := 69) (As := [.long ((q1.1).toInt64 + s0.toInt64), .int (-200 : Int32), .int (200 : Int32)]) yf_X10_heldIn (by decide +kernel) (ok_X10_heldIn ((q1.1).toInt64 + s0.toInt64) (-200 : Int32) (200 : Int32) q1.2 _  hq2) tw_1278 tw_1277 rfl rfl (Nat.le_of_ble_eq_true rfl) dX10_watchOf_69 ?_
  obtain rfl := Option.some.inj hf
  exact V_iret (Y := m_X10_watchOf) rfl dX10_watchOf_72
def f_X10_watchOf_b50  (x1 : Int32) (M : Mem) : Option (Int32 × Mem) :=
  f_X10_watchOf_b51  x1 (0 : Int32) M
set_option maxRecDepth 20000 in
set_option maxHeartbeats 4000000 in
theorem ok_X10_watchOf_b50 {l : Launch} {g : Gam} {b : Nat}   (x1 : Int32) (M : Mem) (z : Int32 × Mem)  (hf : f_X10_watchOf_b50 x1 M = some z) : V l g (wM b) m_X10_watchOf 50 [(0, .ref (b + 0)), (1, .int x1)] [] M (some (.int z.1)) z.2 := by
  unfold f_X10_watchOf_b50 at hf
  refine V_iconst (Y := m_X10_watchOf) (pc := 50) (x := (0 : Int32)) dX10_watchOf_50 (by decide +kernel) ?_
  exact V_sub [0, 1] rfl (ok_X10_watchOf_b51  x1 (0 : Int32) M z  hf)
def f_X10_watchOf_b0  (x1 : Int32) (M : Mem) : Option (Int32 × Mem) :=
  (f_X10_field x1 (1 : Int32) M).bind fun q1 =>
  if ixb ((10 : Int32) + ((3 : Int32) * q1.1)) 3300 = true then
  if (q1.2 1 (ix ((10 : Int32) + ((3 : Int32) * q1.1)))) = (1 : Int32) then
    (f_X10_field x1 (2 : Int32) q1.2).bind fun q3 =>
    if ixb (((10 : Int32) + ((3 : Int32) * q1.1)) + (1 : Int32)) 3300 = true then
    if q3.1 < (q3.2 1 (ix (((10 : Int32) + ((3 : Int32) * q1.1)) + (1 : Int32)))) then
      f_X10_watchOf_b50  x1 q3.2
    else
      if ixb (((10 : Int32) + ((3 : Int32) * q1.1)) + (2 : Int32)) 3300 = true then
      f_X10_watchOf_b51  x1 (q3.2 1 (ix (((10 : Int32) + ((3 : Int32) * q1.1)) + (2 : Int32)))) q3.2
      else none
    else none
  else
    f_X10_watchOf_b50  x1 q1.2
  else none
set_option maxRecDepth 20000 in
set_option maxHeartbeats 4000000 in
theorem ok_X10_watchOf_b0 {l : Launch} {g : Gam} {b : Nat}   (x1 : Int32) (M : Mem) (z : Int32 × Mem)  (hf : f_X10_watchOf_b0 x1 M = some z) : V l g (wM b) m_X10_watchOf 0 [(0, .ref (b + 0)), (1, .int x1)] [] M (some (.int z.1)) z.2 := by
  unfold f_X10_watchOf_b0 at hf
  refine V_bipush (Y := m_X10_watchOf) (pc := 0) (x := (10 : Int32)) dX10_watchOf_0 (by decide +kernel) ?_
  refine V_iconst (Y := m_X10_watchOf) (pc := 2) (x := (3 : Int32)) dX10_watchOf_2 (by decide +kernel) ?_
  refine V_aload_n (Y := m_X10_watchOf) (pc := 3) 0 dX10_watchOf_3 rfl ?_
  refine V_iload_n (Y := m_X10_watchOf) (pc := 4) 1 dX10_watchOf_4 rfl ?_
  refine V_iconst (Y := m_X10_watchOf) (pc := 5) (x := (1 : Int32)) dX10_watchOf_5 (by decide +kernel) ?_
  obtain ⟨q1, hq1, hf⟩ := g_bind hf
  refine V_cVi (Y := m_X10_watchOf) (pc := 6) (As := [.int x1, .int (1 : Int32)]) yf_X10_field kX10 sM_0 (by decide +kernel) (ok_X10_field x1 (1 : Int32) M _  hq1) tw_1244 tw_20 tw_1242 rfl rfl (Nat.le_of_ble_eq_true rfl) dX10_watchOf_6 ?_
  refine V_imul (Y := m_X10_watchOf) (pc := 9) dX10_watchOf_9 ?_
  refine V_iadd (Y := m_X10_watchOf) (pc := 10) dX10_watchOf_10 ?_
  refine V_istore_n (Y := m_X10_watchOf) (pc := 11) [(2, .int ((10 : Int32) + ((3 : Int32) * q1.1))), (0, .ref (b + 0)), (1, .int x1)] dX10_watchOf_11 (by decide +kernel) rfl ?_
  refine V_aload_n (Y := m_X10_watchOf) (pc := 12) 1 dX10_watchOf_12 rfl ?_
  refine V_grL (Y := m_X10_watchOf) (pc := 13) (x := 1) 0 kX10 sM_0 (by decide +kernel) rfl rfl tw_1070 dX10_watchOf_13 ?_
  refine V_iload_n (Y := m_X10_watchOf) (pc := 16) 0 dX10_watchOf_16 rfl ?_
  obtain ⟨hi2, hf⟩ := g_if hf
  refine V_iald (Y := m_X10_watchOf) (pc := 17) sM_1 hi2 dX10_watchOf_17 ?_
  refine V_iconst (Y := m_X10_watchOf) (pc := 18) (x := (1 : Int32)) dX10_watchOf_18 (by decide +kernel) ?_
  refine V_icmp_ne (Y := m_X10_watchOf) (pc := 19) (tgt := 50) dX10_watchOf_19 (by decide +kernel) hf (fun hf => ?_) (fun hf => ?_)
  · exact V_sub [1, 2] rfl (ok_X10_watchOf_b50  x1 q1.2 z  hf)
  · refine V_aload_n (Y := m_X10_watchOf) (pc := 22) 1 dX10_watchOf_22 rfl ?_
    refine V_iload_n (Y := m_X10_watchOf) (pc := 23) 2 dX10_watchOf_23 rfl ?_
    refine V_iconst (Y := m_X10_watchOf) (pc := 24) (x := (2 : Int32)) dX10_watchOf_24 (by decide +kernel) ?_
    obtain ⟨q3, hq3, hf⟩ := g_bind hf
    refine V_cVi (Y := m_X10_watchOf) (pc := 25) (As := [.int x1, .int (2 : Int32)]) yf_X10_field kX10 sM_0 (by decide +kernel) (ok_X10_field x1 (2 : Int32) q1.2 _  hq3) tw_1244 tw_20 tw_1242 rfl rfl (Nat.le_of_ble_eq_true rfl) dX10_watchOf_25 ?_
    refine V_aload_n (Y := m_X10_watchOf) (pc := 28) 1 dX10_watchOf_28 rfl ?_
    refine V_grL (Y := m_X10_watchOf) (pc := 29) (x := 1) 0 kX10 sM_0 (by decide +kernel) rfl rfl tw_1070 dX10_watchOf_29 ?_
    refine V_iload_n (Y := m_X10_watchOf) (pc := 32) 0 dX10_watchOf_32 rfl ?_
    refine V_iconst (Y := m_X10_watchOf) (pc := 33) (x := (1 : Int32)) dX10_watchOf_33 (by decide +kernel) ?_
    refine V_iadd (Y := m_X10_watchOf) (pc := 34) dX10_watchOf_34 ?_
    obtain ⟨hi4, hf⟩ := g_if hf
    refine V_iald (Y := m_X10_watchOf) (pc := 35) sM_1 hi4 dX10_watchOf_35 ?_
    refine V_icmp_lt (Y := m_X10_watchOf) (pc := 36) (tgt := 50) dX10_watchOf_36 (by decide +kernel) hf (fun hf => ?_) (fun hf => ?_)
    · exact V_sub [1, 2] rfl (ok_X10_watchOf_b50  x1 q3.2 z  hf)
    · refine V_aload_n (Y := m_X10_watchOf) (pc := 39) 1 dX10_watchOf_39 rfl ?_
      refine V_grL (Y := m_X10_watchOf) (pc := 40) (x := 1) 0 kX10 sM_0 (by decide +kernel) rfl rfl tw_1070 dX10_watchOf_40 ?_
      refine V_iload_n (Y := m_X10_watchOf) (pc := 43) 0 dX10_watchOf_43 rfl ?_
      refine V_iconst (Y := m_X10_watchOf) (pc := 44) (x := (2 : Int32)) dX10_watchOf_44 (by decide +kernel) ?_
      refine V_iadd (Y := m_X10_watchOf) (pc := 45) dX10_watchOf_45 ?_
      obtain ⟨hi5, hf⟩ := g_if hf
      refine V_iald (Y := m_X10_watchOf) (pc := 46) sM_1 hi5 dX10_watchOf_46 ?_
      refine V_goto (Y := m_X10_watchOf) (pc := 47) (tgt := 51) dX10_watchOf_47 (by decide +kernel) ?_
      exact V_sub [1, 2] rfl (ok_X10_watchOf_b51  x1 (q3.2 1 (ix (((10 : Int32) + ((3 : Int32) * q1.1)) + (2 : Int32)))) q3.2 z  hf)
def f_X10_watchOf (x1 : Int32) (M : Mem) : Option (Int32 × Mem) := f_X10_watchOf_b0 x1 M
set_option maxRecDepth 20000 in
set_option maxHeartbeats 4000000 in
theorem ok_X10_watchOf {l : Launch} {g : Gam} {b : Nat} : ∀ (x1 : Int32) (M : Mem) (z : Int32 × Mem), f_X10_watchOf x1 M = some z → Cn l g (wM b) m_X10_watchOf [.ref (b + 0), .int x1] M (some (.int z.1)) z.2 := fun x1 M z  hf => Cn_of (by decide +kernel) (Nat.le_of_ble_eq_true rfl) (V_sub [0, 1] rfl (ok_X10_watchOf_b0 x1 M z  hf))

abbrev m_X10_says : Mth := (yX10_says, cX10_says, 4, some .int, 5)
theorem yf_X10_says : YF m_X10_says 1 := ⟨tw_1253, tw_75, by decide +kernel, by decide +kernel⟩
def f_X10_says_b0  (x1 : Int32) (M : Mem) : Option (Int32 × Mem) :=
  (f_X10_field x1 (3 : Int32) M).bind fun q1 =>
  (f_X10_field x1 (4 : Int32) q1.2).bind fun q2 =>
  (f_X10_field x1 (0 : Int32) q2.2).bind fun q3 =>
  if q3.1 = (1 : Int32) then
    (f_X10_logOf x1 q3.2).bind fun q5 =>
    some (((q1.1 * q5.1) / (100 : Int32)), q5.2)
  else
  if q3.1 = (2 : Int32) then
    (f_X10_needleOf x1 q3.2).bind fun q7 =>
    some ((q1.1 + q7.1), q7.2)
  else
  if q3.1 = (3 : Int32) then
    (f_X10_watchOf x1 q3.2).bind fun q9 =>
    some ((q1.1 + q9.1), q9.2)
  else
  if q3.1 = (4 : Int32) then
    some ((q1.1 + (q2.1 / (10 : Int32))), q3.2)
  else
  if q3.1 = (5 : Int32) then
    some ((((q1.1 + (q2.1 / (10 : Int32))) / (5 : Int32)) * (5 : Int32)), q3.2)
  else
  if q3.1 = (6 : Int32) then
    some (q1.1, q3.2)
  else
  if q3.1 = (7 : Int32) then
    (f_X10_field x1 (4 : Int32) q3.2).bind fun q14 =>
    some (((q1.1 + (q2.1 / (10 : Int32))) - (q14.1 / (10 : Int32))), q14.2)
  else
  some (q1.1, q3.2)
set_option maxRecDepth 20000 in
set_option maxHeartbeats 4000000 in
theorem ok_X10_says_b0 {l : Launch} {g : Gam} {b : Nat}   (x1 : Int32) (M : Mem) (z : Int32 × Mem)  (hf : f_X10_says_b0 x1 M = some z) : V l g (wM b) m_X10_says 0 [(0, .ref (b + 0)), (1, .int x1)] [] M (some (.int z.1)) z.2 := by
  unfold f_X10_says_b0 at hf
  refine V_aload_n (Y := m_X10_says) (pc := 0) 0 dX10_says_0 rfl ?_
  refine V_iload_n (Y := m_X10_says) (pc := 1) 1 dX10_says_1 rfl ?_
  refine V_iconst (Y := m_X10_says) (pc := 2) (x := (3 : Int32)) dX10_says_2 (by decide +kernel) ?_
  obtain ⟨q1, hq1, hf⟩ := g_bind hf
  refine V_cVi (Y := m_X10_says) (pc := 3) (As := [.int x1, .int (3 : Int32)]) yf_X10_field kX10 sM_0 (by decide +kernel) (ok_X10_field x1 (3 : Int32) M _  hq1) tw_1244 tw_20 tw_1242 rfl rfl (Nat.le_of_ble_eq_true rfl) dX10_says_3 ?_
  refine V_istore_n (Y := m_X10_says) (pc := 6) [(2, .int q1.1), (0, .ref (b + 0)), (1, .int x1)] dX10_says_6 (by decide +kernel) rfl ?_
  refine V_iload_n (Y := m_X10_says) (pc := 7) 0 dX10_says_7 rfl ?_
  refine V_aload_n (Y := m_X10_says) (pc := 8) 1 dX10_says_8 rfl ?_
  refine V_iload_n (Y := m_X10_says) (pc := 9) 2 dX10_says_9 rfl ?_
  refine V_iconst (Y := m_X10_says) (pc := 10) (x := (4 : Int32)) dX10_says_10 (by decide +kernel) ?_
  obtain ⟨q2, hq2, hf⟩ := g_bind hf
  refine V_cVi (Y := m_X10_says) (pc := 11) (As := [.int x1, .int (4 : Int32)]) yf_X10_field kX10 sM_0 (by decide +kernel) (ok_X10_field x1 (4 : Int32) q1.2 _  hq2) tw_1244 tw_20 tw_1242 rfl rfl (Nat.le_of_ble_eq_true rfl) dX10_says_11 ?_
  refine V_bipush (Y := m_X10_says) (pc := 14) (x := (10 : Int32)) dX10_says_14 (by decide +kernel) ?_
  refine V_idiv (Y := m_X10_says) (pc := 16) dX10_says_16 (by decide +kernel) ?_
  refine V_iadd (Y := m_X10_says) (pc := 17) dX10_says_17 ?_
  refine V_istore_n (Y := m_X10_says) (pc := 18) [(3, .int (q1.1 + (q2.1 / (10 : Int32)))), (2, .int q1.1), (0, .ref (b + 0)), (1, .int x1)] dX10_says_18 (by decide +kernel) rfl ?_
  refine V_aload_n (Y := m_X10_says) (pc := 19) 2 dX10_says_19 rfl ?_
  refine V_iload_n (Y := m_X10_says) (pc := 20) 3 dX10_says_20 rfl ?_
  refine V_iconst (Y := m_X10_says) (pc := 21) (x := (0 : Int32)) dX10_says_21 (by decide +kernel) ?_
  obtain ⟨q3, hq3, hf⟩ := g_bind hf
  refine V_cVi (Y := m_X10_says) (pc := 22) (As := [.int x1, .int (0 : Int32)]) yf_X10_field kX10 sM_0 (by decide +kernel) (ok_X10_field x1 (0 : Int32) q2.2 _  hq3) tw_1244 tw_20 tw_1242 rfl rfl (Nat.le_of_ble_eq_true rfl) dX10_says_22 ?_
  by_cases hc4 : q3.1 = (1 : Int32)
  · rw [if_pos hc4] at hf
    refine V_tsw (Y := m_X10_says) (pc := 25) (tgt := 68) (1 : Int32) hc4 dX10_says_25 (by decide +kernel) ?_
    refine V_iload_n (Y := m_X10_says) (pc := 68) 1 dX10_says_68 rfl ?_
    refine V_aload_n (Y := m_X10_says) (pc := 69) 2 dX10_says_69 rfl ?_
    refine V_iload_n (Y := m_X10_says) (pc := 70) 3 dX10_says_70 rfl ?_
    obtain ⟨q5, hq5, hf⟩ := g_bind hf
    refine V_cVi (Y := m_X10_says) (pc := 71) (As := [.int x1]) yf_X10_logOf kX10 sM_0 (by decide +kernel) (ok_X10_logOf x1 q3.2 _  hq5) tw_1256 tw_22 tw_1254 rfl rfl (Nat.le_of_ble_eq_true rfl) dX10_says_71 ?_
    refine V_imul (Y := m_X10_says) (pc := 74) dX10_says_74 ?_
    refine V_bipush (Y := m_X10_says) (pc := 75) (x := (100 : Int32)) dX10_says_75 (by decide +kernel) ?_
    refine V_idiv (Y := m_X10_says) (pc := 77) dX10_says_77 (by decide +kernel) ?_
    obtain rfl := Option.some.inj hf
    exact V_iret (Y := m_X10_says) rfl dX10_says_78
  rw [if_neg hc4] at hf
  by_cases hc6 : q3.1 = (2 : Int32)
  · rw [if_pos hc6] at hf
    refine V_tsw (Y := m_X10_says) (pc := 25) (tgt := 79) (2 : Int32) hc6 dX10_says_25 (by decide +kernel) ?_
    refine V_iload_n (Y := m_X10_says) (pc := 79) 1 dX10_says_79 rfl ?_
    refine V_aload_n (Y := m_X10_says) (pc := 80) 2 dX10_says_80 rfl ?_
    refine V_iload_n (Y := m_X10_says) (pc := 81) 3 dX10_says_81 rfl ?_
    obtain ⟨q7, hq7, hf⟩ := g_bind hf
    refine V_cVi (Y := m_X10_says) (pc := 82) (As := [.int x1]) yf_X10_needleOf kX10 sM_0 (by decide +kernel) (ok_X10_needleOf x1 q3.2 _  hq7) tw_1282 tw_27 tw_1280 rfl rfl (Nat.le_of_ble_eq_true rfl) dX10_says_82 ?_
    refine V_iadd (Y := m_X10_says) (pc := 85) dX10_says_85 ?_
    obtain rfl := Option.some.inj hf
    exact V_iret (Y := m_X10_says) rfl dX10_says_86
  rw [if_neg hc6] at hf
  by_cases hc8 : q3.1 = (3 : Int32)
  · rw [if_pos hc8] at hf
    refine V_tsw (Y := m_X10_says) (pc := 25) (tgt := 87) (3 : Int32) hc8 dX10_says_25 (by decide +kernel) ?_
    refine V_iload_n (Y := m_X10_says) (pc := 87) 1 dX10_says_87 rfl ?_
    refine V_aload_n (Y := m_X10_says) (pc := 88) 2 dX10_says_88 rfl ?_
    refine V_iload_n (Y := m_X10_says) (pc := 89) 3 dX10_says_89 rfl ?_
    obtain ⟨q9, hq9, hf⟩ := g_bind hf
    refine V_cVi (Y := m_X10_says) (pc := 90) (As := [.int x1]) yf_X10_watchOf kX10 sM_0 (by decide +kernel) (ok_X10_watchOf x1 q3.2 _  hq9) tw_1286 tw_28 tw_1284 rfl rfl (Nat.le_of_ble_eq_true rfl) dX10_says_90 ?_
    refine V_iadd (Y := m_X10_says) (pc := 93) dX10_says_93 ?_
    obtain rfl := Option.some.inj hf
    exact V_iret (Y := m_X10_says) rfl dX10_says_94
  rw [if_neg hc8] at hf
  by_cases hc10 : q3.1 = (4 : Int32)
  · rw [if_pos hc10] at hf
    refine V_tsw (Y := m_X10_says) (pc := 25) (tgt := 95) (4 : Int32) hc10 dX10_says_25 (by decide +kernel) ?_
    refine V_iload_n (Y := m_X10_says) (pc := 95) 0 dX10_says_95 rfl ?_
    obtain rfl := Option.some.inj hf
    exact V_iret (Y := m_X10_says) rfl dX10_says_96
  rw [if_neg hc10] at hf
  by_cases hc11 : q3.1 = (5 : Int32)
  · rw [if_pos hc11] at hf
    refine V_tsw (Y := m_X10_says) (pc := 25) (tgt := 97) (5 : Int32) hc11 dX10_says_25 (by decide +kernel) ?_
    refine V_iload_n (Y := m_X10_says) (pc := 97) 0 dX10_says_97 rfl ?_
    refine V_iconst (Y := m_X10_says) (pc := 98) (x := (5 : Int32)) dX10_says_98 (by decide +kernel) ?_
    refine V_idiv (Y := m_X10_says) (pc := 99) dX10_says_99 (by decide +kernel) ?_
    refine V_iconst (Y := m_X10_says) (pc := 100) (x := (5 : Int32)) dX10_says_100 (by decide +kernel) ?_
    refine V_imul (Y := m_X10_says) (pc := 101) dX10_says_101 ?_
    obtain rfl := Option.some.inj hf
    exact V_iret (Y := m_X10_says) rfl dX10_says_102
  rw [if_neg hc11] at hf
  by_cases hc12 : q3.1 = (6 : Int32)
  · rw [if_pos hc12] at hf
    refine V_tsw (Y := m_X10_says) (pc := 25) (tgt := 115) (6 : Int32) hc12 dX10_says_25 (by decide +kernel) ?_
    refine V_iload_n (Y := m_X10_says) (pc := 115) 1 dX10_says_115 rfl ?_
    obtain rfl := Option.some.inj hf
    exact V_iret (Y := m_X10_says) rfl dX10_says_116
  rw [if_neg hc12] at hf
  by_cases hc13 : q3.1 = (7 : Int32)
  · rw [if_pos hc13] at hf
    refine V_tsw (Y := m_X10_says) (pc := 25) (tgt := 103) (7 : Int32) hc13 dX10_says_25 (by decide +kernel) ?_
    refine V_iload_n (Y := m_X10_says) (pc := 103) 0 dX10_says_103 rfl ?_
    refine V_aload_n (Y := m_X10_says) (pc := 104) 2 dX10_says_104 rfl ?_
    refine V_iload_n (Y := m_X10_says) (pc := 105) 3 dX10_says_105 rfl ?_
    refine V_iconst (Y := m_X10_says) (pc := 106) (x := (4 : Int32)) dX10_says_106 (by decide +kernel) ?_
    obtain ⟨q14, hq14, hf⟩ := g_bind hf
    refine V_cVi (Y := m_X10_says) (pc := 107) (As := [.int x1, .int (4 : Int32)]) yf_X10_field kX10 sM_0 (by decide +kernel) (ok_X10_field x1 (4 : Int32) q3.2 _  hq14) tw_1244 tw_20 tw_1242 rfl rfl (Nat.le_of_ble_eq_true rfl) dX10_says_107 ?_
    refine V_bipush (Y := m_X10_says) (pc := 110) (x := (10 : Int32)) dX10_says_110 (by decide +kernel) ?_
    refine V_idiv (Y := m_X10_says) (pc := 112) dX10_says_112 (by decide +kernel) ?_
    refine V_isub (Y := m_X10_says) (pc := 113) dX10_says_113 ?_
    obtain rfl := Option.some.inj hf
    exact V_iret (Y := m_X10_says) rfl dX10_says_114
  rw [if_neg hc13] at hf
  refine V_tswO (Y := m_X10_says) (pc := 25) (tgt := 115) [(1 : Int32), (2 : Int32), (3 : Int32), (4 : Int32), (5 : Int32), (6 : Int32), (7 : Int32)] (List.forall_mem_cons.mpr ⟨hc4, (List.forall_mem_cons.mpr ⟨hc6, (List.forall_mem_cons.mpr ⟨hc8, (List.forall_mem_cons.mpr ⟨hc10, (List.forall_mem_cons.mpr ⟨hc11, (List.forall_mem_cons.mpr ⟨hc12, (List.forall_mem_cons.mpr ⟨hc13, (fun _ h => absurd h List.not_mem_nil)⟩)⟩)⟩)⟩)⟩)⟩)⟩) dX10_says_25 (by decide +kernel) (by decide +kernel) ?_
  refine V_iload_n (Y := m_X10_says) (pc := 115) 1 dX10_says_115 rfl ?_
  obtain rfl := Option.some.inj hf
  exact V_iret (Y := m_X10_says) rfl dX10_says_116
def f_X10_says (x1 : Int32) (M : Mem) : Option (Int32 × Mem) := f_X10_says_b0 x1 M
set_option maxRecDepth 20000 in
set_option maxHeartbeats 4000000 in
theorem ok_X10_says {l : Launch} {g : Gam} {b : Nat} : ∀ (x1 : Int32) (M : Mem) (z : Int32 × Mem), f_X10_says x1 M = some z → Cn l g (wM b) m_X10_says [.ref (b + 0), .int x1] M (some (.int z.1)) z.2 := fun x1 M z  hf => Cn_of (by decide +kernel) (Nat.le_of_ble_eq_true rfl) (V_sub [0, 1] rfl (ok_X10_says_b0 x1 M z  hf))

abbrev m_X10_spanOf : Mth := (yX10_spanOf, cX10_spanOf, 2, some .int, 2)
theorem yf_X10_spanOf : YF m_X10_spanOf 1 := ⟨tw_1291, tw_75, by decide +kernel, by decide +kernel⟩
def f_X10_spanOf_b0  (x1 : Int32) (M : Mem) : Option (Int32 × Mem) :=
  (f_X10_field x1 (0 : Int32) M).bind fun q1 =>
  if q1.1 = (1 : Int32) then
    (f_X10_field x1 (3 : Int32) q1.2).bind fun q3 =>
    some (((10 : Int32) + (q3.1 / (20 : Int32))), q3.2)
  else
  if q1.1 = (2 : Int32) then
    some ((15 : Int32), q1.2)
  else
  if q1.1 = (3 : Int32) then
    (f_X10_field x1 (2 : Int32) q1.2).bind fun q6 =>
    some (((5 : Int32) + (q6.1 / (10 : Int32))), q6.2)
  else
  if q1.1 = (4 : Int32) then
    some ((25 : Int32), q1.2)
  else
  if q1.1 = (5 : Int32) then
    some ((35 : Int32), q1.2)
  else
  if q1.1 = (6 : Int32) then
    some ((20 : Int32), q1.2)
  else
  if q1.1 = (7 : Int32) then
    some ((2 : Int32), q1.2)
  else
  some ((20 : Int32), q1.2)
set_option maxRecDepth 20000 in
set_option maxHeartbeats 4000000 in
theorem ok_X10_spanOf_b0 {l : Launch} {g : Gam} {b : Nat}   (x1 : Int32) (M : Mem) (z : Int32 × Mem)  (hf : f_X10_spanOf_b0 x1 M = some z) : V l g (wM b) m_X10_spanOf 0 [(0, .ref (b + 0)), (1, .int x1)] [] M (some (.int z.1)) z.2 := by
  unfold f_X10_spanOf_b0 at hf
  refine V_aload_n (Y := m_X10_spanOf) (pc := 0) 0 dX10_spanOf_0 rfl ?_
  refine V_iload_n (Y := m_X10_spanOf) (pc := 1) 1 dX10_spanOf_1 rfl ?_
  refine V_iconst (Y := m_X10_spanOf) (pc := 2) (x := (0 : Int32)) dX10_spanOf_2 (by decide +kernel) ?_
  obtain ⟨q1, hq1, hf⟩ := g_bind hf
  refine V_cVi (Y := m_X10_spanOf) (pc := 3) (As := [.int x1, .int (0 : Int32)]) yf_X10_field kX10 sM_0 (by decide +kernel) (ok_X10_field x1 (0 : Int32) M _  hq1) tw_1244 tw_20 tw_1242 rfl rfl (Nat.le_of_ble_eq_true rfl) dX10_spanOf_3 ?_
  by_cases hc2 : q1.1 = (1 : Int32)
  · rw [if_pos hc2] at hf
    refine V_tsw (Y := m_X10_spanOf) (pc := 6) (tgt := 48) (1 : Int32) hc2 dX10_spanOf_6 (by decide +kernel) ?_
    refine V_bipush (Y := m_X10_spanOf) (pc := 48) (x := (10 : Int32)) dX10_spanOf_48 (by decide +kernel) ?_
    refine V_aload_n (Y := m_X10_spanOf) (pc := 50) 0 dX10_spanOf_50 rfl ?_
    refine V_iload_n (Y := m_X10_spanOf) (pc := 51) 1 dX10_spanOf_51 rfl ?_
    refine V_iconst (Y := m_X10_spanOf) (pc := 52) (x := (3 : Int32)) dX10_spanOf_52 (by decide +kernel) ?_
    obtain ⟨q3, hq3, hf⟩ := g_bind hf
    refine V_cVi (Y := m_X10_spanOf) (pc := 53) (As := [.int x1, .int (3 : Int32)]) yf_X10_field kX10 sM_0 (by decide +kernel) (ok_X10_field x1 (3 : Int32) q1.2 _  hq3) tw_1244 tw_20 tw_1242 rfl rfl (Nat.le_of_ble_eq_true rfl) dX10_spanOf_53 ?_
    refine V_bipush (Y := m_X10_spanOf) (pc := 56) (x := (20 : Int32)) dX10_spanOf_56 (by decide +kernel) ?_
    refine V_idiv (Y := m_X10_spanOf) (pc := 58) dX10_spanOf_58 (by decide +kernel) ?_
    refine V_iadd (Y := m_X10_spanOf) (pc := 59) dX10_spanOf_59 ?_
    obtain rfl := Option.some.inj hf
    exact V_iret (Y := m_X10_spanOf) rfl dX10_spanOf_60
  rw [if_neg hc2] at hf
  by_cases hc4 : q1.1 = (2 : Int32)
  · rw [if_pos hc4] at hf
    refine V_tsw (Y := m_X10_spanOf) (pc := 6) (tgt := 61) (2 : Int32) hc4 dX10_spanOf_6 (by decide +kernel) ?_
    refine V_bipush (Y := m_X10_spanOf) (pc := 61) (x := (15 : Int32)) dX10_spanOf_61 (by decide +kernel) ?_
    obtain rfl := Option.some.inj hf
    exact V_iret (Y := m_X10_spanOf) rfl dX10_spanOf_63
  rw [if_neg hc4] at hf
  by_cases hc5 : q1.1 = (3 : Int32)
  · rw [if_pos hc5] at hf
    refine V_tsw (Y := m_X10_spanOf) (pc := 6) (tgt := 64) (3 : Int32) hc5 dX10_spanOf_6 (by decide +kernel) ?_
    refine V_iconst (Y := m_X10_spanOf) (pc := 64) (x := (5 : Int32)) dX10_spanOf_64 (by decide +kernel) ?_
    refine V_aload_n (Y := m_X10_spanOf) (pc := 65) 0 dX10_spanOf_65 rfl ?_
    refine V_iload_n (Y := m_X10_spanOf) (pc := 66) 1 dX10_spanOf_66 rfl ?_
    refine V_iconst (Y := m_X10_spanOf) (pc := 67) (x := (2 : Int32)) dX10_spanOf_67 (by decide +kernel) ?_
    obtain ⟨q6, hq6, hf⟩ := g_bind hf
    refine V_cVi (Y := m_X10_spanOf) (pc := 68) (As := [.int x1, .int (2 : Int32)]) yf_X10_field kX10 sM_0 (by decide +kernel) (ok_X10_field x1 (2 : Int32) q1.2 _  hq6) tw_1244 tw_20 tw_1242 rfl rfl (Nat.le_of_ble_eq_true rfl) dX10_spanOf_68 ?_
    refine V_bipush (Y := m_X10_spanOf) (pc := 71) (x := (10 : Int32)) dX10_spanOf_71 (by decide +kernel) ?_
    refine V_idiv (Y := m_X10_spanOf) (pc := 73) dX10_spanOf_73 (by decide +kernel) ?_
    refine V_iadd (Y := m_X10_spanOf) (pc := 74) dX10_spanOf_74 ?_
    obtain rfl := Option.some.inj hf
    exact V_iret (Y := m_X10_spanOf) rfl dX10_spanOf_75
  rw [if_neg hc5] at hf
  by_cases hc7 : q1.1 = (4 : Int32)
  · rw [if_pos hc7] at hf
    refine V_tsw (Y := m_X10_spanOf) (pc := 6) (tgt := 76) (4 : Int32) hc7 dX10_spanOf_6 (by decide +kernel) ?_
    refine V_bipush (Y := m_X10_spanOf) (pc := 76) (x := (25 : Int32)) dX10_spanOf_76 (by decide +kernel) ?_
    obtain rfl := Option.some.inj hf
    exact V_iret (Y := m_X10_spanOf) rfl dX10_spanOf_78
  rw [if_neg hc7] at hf
  by_cases hc8 : q1.1 = (5 : Int32)
  · rw [if_pos hc8] at hf
    refine V_tsw (Y := m_X10_spanOf) (pc := 6) (tgt := 79) (5 : Int32) hc8 dX10_spanOf_6 (by decide +kernel) ?_
    refine V_bipush (Y := m_X10_spanOf) (pc := 79) (x := (35 : Int32)) dX10_spanOf_79 (by decide +kernel) ?_
    obtain rfl := Option.some.inj hf
    exact V_iret (Y := m_X10_spanOf) rfl dX10_spanOf_81
  rw [if_neg hc8] at hf
  by_cases hc9 : q1.1 = (6 : Int32)
  · rw [if_pos hc9] at hf
    refine V_tsw (Y := m_X10_spanOf) (pc := 6) (tgt := 84) (6 : Int32) hc9 dX10_spanOf_6 (by decide +kernel) ?_
    refine V_bipush (Y := m_X10_spanOf) (pc := 84) (x := (20 : Int32)) dX10_spanOf_84 (by decide +kernel) ?_
    obtain rfl := Option.some.inj hf
    exact V_iret (Y := m_X10_spanOf) rfl dX10_spanOf_86
  rw [if_neg hc9] at hf
  by_cases hc10 : q1.1 = (7 : Int32)
  · rw [if_pos hc10] at hf
    refine V_tsw (Y := m_X10_spanOf) (pc := 6) (tgt := 82) (7 : Int32) hc10 dX10_spanOf_6 (by decide +kernel) ?_
    refine V_iconst (Y := m_X10_spanOf) (pc := 82) (x := (2 : Int32)) dX10_spanOf_82 (by decide +kernel) ?_
    obtain rfl := Option.some.inj hf
    exact V_iret (Y := m_X10_spanOf) rfl dX10_spanOf_83
  rw [if_neg hc10] at hf
  refine V_tswO (Y := m_X10_spanOf) (pc := 6) (tgt := 84) [(1 : Int32), (2 : Int32), (3 : Int32), (4 : Int32), (5 : Int32), (6 : Int32), (7 : Int32)] (List.forall_mem_cons.mpr ⟨hc2, (List.forall_mem_cons.mpr ⟨hc4, (List.forall_mem_cons.mpr ⟨hc5, (List.forall_mem_cons.mpr ⟨hc7, (List.forall_mem_cons.mpr ⟨hc8, (List.forall_mem_cons.mpr ⟨hc9, (List.forall_mem_cons.mpr ⟨hc10, (fun _ h => absurd h List.not_mem_nil)⟩)⟩)⟩)⟩)⟩)⟩)⟩) dX10_spanOf_6 (by decide +kernel) (by decide +kernel) ?_
  refine V_bipush (Y := m_X10_spanOf) (pc := 84) (x := (20 : Int32)) dX10_spanOf_84 (by decide +kernel) ?_
  obtain rfl := Option.some.inj hf
  exact V_iret (Y := m_X10_spanOf) rfl dX10_spanOf_86
def f_X10_spanOf (x1 : Int32) (M : Mem) : Option (Int32 × Mem) := f_X10_spanOf_b0 x1 M
set_option maxRecDepth 20000 in
set_option maxHeartbeats 4000000 in
theorem ok_X10_spanOf {l : Launch} {g : Gam} {b : Nat} : ∀ (x1 : Int32) (M : Mem) (z : Int32 × Mem), f_X10_spanOf x1 M = some z → Cn l g (wM b) m_X10_spanOf [.ref (b + 0), .int x1] M (some (.int z.1)) z.2 := fun x1 M z  hf => Cn_of (by decide +kernel) (Nat.le_of_ble_eq_true rfl) (V_sub [0, 1] rfl (ok_X10_spanOf_b0 x1 M z  hf))

abbrev m_X10_worthOf : Mth := (yX10_worthOf, cX10_worthOf, 1, some .int, 1)
theorem yf_X10_worthOf : YF m_X10_worthOf 1 := ⟨tw_1294, tw_75, by decide +kernel, by decide +kernel⟩
def f_X10_worthOf_b0  (x0 : Int32) (M : Mem) : Option (Int32 × Mem) :=
  if x0 = (3 : Int32) then
    some ((5 : Int32), M)
  else
  if x0 = (4 : Int32) then
    some ((2 : Int32), M)
  else
  if x0 = (5 : Int32) then
    some ((2 : Int32), M)
  else
  if x0 = (6 : Int32) then
    some ((3 : Int32), M)
  else
  if x0 = (7 : Int32) then
    some ((8 : Int32), M)
  else
  some ((1 : Int32), M)
set_option maxRecDepth 20000 in
set_option maxHeartbeats 4000000 in
theorem ok_X10_worthOf_b0 {l : Launch} {g : Gam} {b : Nat}   (x0 : Int32) (M : Mem) (z : Int32 × Mem)  (hf : f_X10_worthOf_b0 x0 M = some z) : V l g (wM b) m_X10_worthOf 0 [(0, .int x0)] [] M (some (.int z.1)) z.2 := by
  unfold f_X10_worthOf_b0 at hf
  refine V_iload_n (Y := m_X10_worthOf) (pc := 0) 0 dX10_worthOf_0 rfl ?_
  by_cases hc1 : x0 = (3 : Int32)
  · rw [if_pos hc1] at hf
    refine V_tsw (Y := m_X10_worthOf) (pc := 1) (tgt := 36) (3 : Int32) hc1 dX10_worthOf_1 (by decide +kernel) ?_
    refine V_iconst (Y := m_X10_worthOf) (pc := 36) (x := (5 : Int32)) dX10_worthOf_36 (by decide +kernel) ?_
    obtain rfl := Option.some.inj hf
    exact V_iret (Y := m_X10_worthOf) rfl dX10_worthOf_37
  rw [if_neg hc1] at hf
  by_cases hc2 : x0 = (4 : Int32)
  · rw [if_pos hc2] at hf
    refine V_tsw (Y := m_X10_worthOf) (pc := 1) (tgt := 38) (4 : Int32) hc2 dX10_worthOf_1 (by decide +kernel) ?_
    refine V_iconst (Y := m_X10_worthOf) (pc := 38) (x := (2 : Int32)) dX10_worthOf_38 (by decide +kernel) ?_
    obtain rfl := Option.some.inj hf
    exact V_iret (Y := m_X10_worthOf) rfl dX10_worthOf_39
  rw [if_neg hc2] at hf
  by_cases hc3 : x0 = (5 : Int32)
  · rw [if_pos hc3] at hf
    refine V_tsw (Y := m_X10_worthOf) (pc := 1) (tgt := 38) (5 : Int32) hc3 dX10_worthOf_1 (by decide +kernel) ?_
    refine V_iconst (Y := m_X10_worthOf) (pc := 38) (x := (2 : Int32)) dX10_worthOf_38 (by decide +kernel) ?_
    obtain rfl := Option.some.inj hf
    exact V_iret (Y := m_X10_worthOf) rfl dX10_worthOf_39
  rw [if_neg hc3] at hf
  by_cases hc4 : x0 = (6 : Int32)
  · rw [if_pos hc4] at hf
    refine V_tsw (Y := m_X10_worthOf) (pc := 1) (tgt := 43) (6 : Int32) hc4 dX10_worthOf_1 (by decide +kernel) ?_
    refine V_iconst (Y := m_X10_worthOf) (pc := 43) (x := (3 : Int32)) dX10_worthOf_43 (by decide +kernel) ?_
    obtain rfl := Option.some.inj hf
    exact V_iret (Y := m_X10_worthOf) rfl dX10_worthOf_44
  rw [if_neg hc4] at hf
  by_cases hc5 : x0 = (7 : Int32)
  · rw [if_pos hc5] at hf
    refine V_tsw (Y := m_X10_worthOf) (pc := 1) (tgt := 40) (7 : Int32) hc5 dX10_worthOf_1 (by decide +kernel) ?_
    refine V_bipush (Y := m_X10_worthOf) (pc := 40) (x := (8 : Int32)) dX10_worthOf_40 (by decide +kernel) ?_
    obtain rfl := Option.some.inj hf
    exact V_iret (Y := m_X10_worthOf) rfl dX10_worthOf_42
  rw [if_neg hc5] at hf
  refine V_tswO (Y := m_X10_worthOf) (pc := 1) (tgt := 45) [(3 : Int32), (4 : Int32), (5 : Int32), (6 : Int32), (7 : Int32)] (List.forall_mem_cons.mpr ⟨hc1, (List.forall_mem_cons.mpr ⟨hc2, (List.forall_mem_cons.mpr ⟨hc3, (List.forall_mem_cons.mpr ⟨hc4, (List.forall_mem_cons.mpr ⟨hc5, (fun _ h => absurd h List.not_mem_nil)⟩)⟩)⟩)⟩)⟩) dX10_worthOf_1 (by decide +kernel) (by decide +kernel) ?_
  refine V_iconst (Y := m_X10_worthOf) (pc := 45) (x := (1 : Int32)) dX10_worthOf_45 (by decide +kernel) ?_
  obtain rfl := Option.some.inj hf
  exact V_iret (Y := m_X10_worthOf) rfl dX10_worthOf_46
def f_X10_worthOf (x0 : Int32) (M : Mem) : Option (Int32 × Mem) := f_X10_worthOf_b0 x0 M
set_option maxRecDepth 20000 in
set_option maxHeartbeats 4000000 in
theorem ok_X10_worthOf {l : Launch} {g : Gam} {b : Nat} : ∀ (x0 : Int32) (M : Mem) (z : Int32 × Mem), f_X10_worthOf x0 M = some z → Cn l g (wM b) m_X10_worthOf [.int x0] M (some (.int z.1)) z.2 := fun x0 M z  hf => Cn_of (by decide +kernel) (Nat.le_of_ble_eq_true rfl) (V_sub [0] rfl (ok_X10_worthOf_b0 x0 M z  hf))

abbrev m_X10_told : Mth := (yX10_told, cX10_told, 3, some .int, 6)
theorem yf_X10_told : YF m_X10_told 2 := ⟨tw_1237, tw_75, by decide +kernel, by decide +kernel⟩
def f_X10_told_b80  (x1 : Int32) (x2 : Int32) (M : Mem) : Option (Int32 × Mem) :=
  (f_X10_field x1 x2 M).bind fun q1 =>
  some (q1.1, q1.2)
set_option maxRecDepth 20000 in
set_option maxHeartbeats 4000000 in
theorem ok_X10_told_b80 {l : Launch} {g : Gam} {b : Nat}   (x1 : Int32) (x2 : Int32) (M : Mem) (z : Int32 × Mem)  (hf : f_X10_told_b80 x1 x2 M = some z) : V l g (wM b) m_X10_told 80 [(0, .ref (b + 0)), (1, .int x1), (2, .int x2)] [] M (some (.int z.1)) z.2 := by
  unfold f_X10_told_b80 at hf
  refine V_aload_n (Y := m_X10_told) (pc := 80) 0 dX10_told_80 rfl ?_
  refine V_iload_n (Y := m_X10_told) (pc := 81) 1 dX10_told_81 rfl ?_
  refine V_iload_n (Y := m_X10_told) (pc := 82) 2 dX10_told_82 rfl ?_
  obtain ⟨q1, hq1, hf⟩ := g_bind hf
  refine V_cVi (Y := m_X10_told) (pc := 83) (As := [.int x1, .int x2]) yf_X10_field kX10 sM_0 (by decide +kernel) (ok_X10_field x1 x2 M _  hq1) tw_1244 tw_20 tw_1242 rfl rfl (Nat.le_of_ble_eq_true rfl) dX10_told_83 ?_
  obtain rfl := Option.some.inj hf
  exact V_iret (Y := m_X10_told) rfl dX10_told_86
def f_X10_told_b0  (x1 : Int32) (x2 : Int32) (M : Mem) : Option (Int32 × Mem) :=
  (f_X10_isMark x1 M).bind fun q1 =>
  if q1.1 = 0 then
    some ((-1000000001 : Int32), q1.2)
  else
    if x2 = (0 : Int32) then
      f_X10_told_b80  x1 x2 q1.2
    else
    if x2 = (1 : Int32) then
      f_X10_told_b80  x1 x2 q1.2
    else
    if x2 = (2 : Int32) then
      f_X10_told_b80  x1 x2 q1.2
    else
    if x2 = (3 : Int32) then
      f_X10_told_b80  x1 x2 q1.2
    else
    if x2 = (4 : Int32) then
      f_X10_told_b80  x1 x2 q1.2
    else
    if x2 = (5 : Int32) then
      (f_X10_field x1 (5 : Int32) q1.2).bind fun q8 =>
      (f_X10_orNone q8.1 q8.2).bind fun q9 =>
      some (q9.1, q9.2)
    else
    if x2 = (6 : Int32) then
      (f_X10_says x1 q1.2).bind fun q11 =>
      some (q11.1, q11.2)
    else
    if x2 = (7 : Int32) then
      (f_X10_spanOf x1 q1.2).bind fun q13 =>
      some (q13.1, q13.2)
    else
    if x2 = (8 : Int32) then
      (f_X10_field x1 (0 : Int32) q1.2).bind fun q15 =>
      (f_X10_worthOf q15.1 q15.2).bind fun q16 =>
      some (q16.1, q16.2)
    else
    if x2 = (9 : Int32) then
      (f_X10_field x1 (6 : Int32) q1.2).bind fun q18 =>
      (f_X10_orNone q18.1 q18.2).bind fun q19 =>
      some (q19.1, q19.2)
    else
    if x2 = (10 : Int32) then
      (f_X10_logOf x1 q1.2).bind fun q21 =>
      some (q21.1, q21.2)
    else
    if x2 = (11 : Int32) then
      (f_X10_needleOf x1 q1.2).bind fun q23 =>
      some (q23.1, q23.2)
    else
    if x2 = (12 : Int32) then
      (f_X10_watchOf x1 q1.2).bind fun q25 =>
      some (q25.1, q25.2)
    else
    some ((-1000000001 : Int32), q1.2)
set_option maxRecDepth 20000 in
set_option maxHeartbeats 4000000 in
theorem ok_X10_told_b0 {l : Launch} {g : Gam} {b : Nat}   (x1 : Int32) (x2 : Int32) (M : Mem) (z : Int32 × Mem)  (hf : f_X10_told_b0 x1 x2 M = some z) : V l g (wM b) m_X10_told 0 [(0, .ref (b + 0)), (1, .int x1), (2, .int x2)] [] M (some (.int z.1)) z.2 := by
  unfold f_X10_told_b0 at hf
  refine V_aload_n (Y := m_X10_told) (pc := 0) 0 dX10_told_0 rfl ?_
  refine V_iload_n (Y := m_X10_told) (pc := 1) 1 dX10_told_1 rfl ?_
  obtain ⟨q1, hq1, hf⟩ := g_bind hf
  refine V_cVi (Y := m_X10_told) (pc := 2) (As := [.int x1]) yf_X10_isMark kX10 sM_0 (by decide +kernel) (ok_X10_isMark x1 M _  hq1) tw_1240 tw_19 tw_1238 rfl rfl (Nat.le_of_ble_eq_true rfl) dX10_told_2 ?_
  refine V_if_ne (Y := m_X10_told) (pc := 5) (tgt := 11) dX10_told_5 (by decide +kernel) hf (fun hf => ?_) (fun hf => ?_)
  · refine V_iload_n (Y := m_X10_told) (pc := 11) 2 dX10_told_11 rfl ?_
    by_cases hc2 : x2 = (0 : Int32)
    · rw [if_pos hc2] at hf
      refine V_tsw (Y := m_X10_told) (pc := 12) (tgt := 80) (0 : Int32) hc2 dX10_told_12 (by decide +kernel) ?_
      exact V_sub [0, 1, 2] rfl (ok_X10_told_b80  x1 x2 q1.2 z  hf)
    rw [if_neg hc2] at hf
    by_cases hc3 : x2 = (1 : Int32)
    · rw [if_pos hc3] at hf
      refine V_tsw (Y := m_X10_told) (pc := 12) (tgt := 80) (1 : Int32) hc3 dX10_told_12 (by decide +kernel) ?_
      exact V_sub [0, 1, 2] rfl (ok_X10_told_b80  x1 x2 q1.2 z  hf)
    rw [if_neg hc3] at hf
    by_cases hc4 : x2 = (2 : Int32)
    · rw [if_pos hc4] at hf
      refine V_tsw (Y := m_X10_told) (pc := 12) (tgt := 80) (2 : Int32) hc4 dX10_told_12 (by decide +kernel) ?_
      exact V_sub [0, 1, 2] rfl (ok_X10_told_b80  x1 x2 q1.2 z  hf)
    rw [if_neg hc4] at hf
    by_cases hc5 : x2 = (3 : Int32)
    · rw [if_pos hc5] at hf
      refine V_tsw (Y := m_X10_told) (pc := 12) (tgt := 80) (3 : Int32) hc5 dX10_told_12 (by decide +kernel) ?_
      exact V_sub [0, 1, 2] rfl (ok_X10_told_b80  x1 x2 q1.2 z  hf)
    rw [if_neg hc5] at hf
    by_cases hc6 : x2 = (4 : Int32)
    · rw [if_pos hc6] at hf
      refine V_tsw (Y := m_X10_told) (pc := 12) (tgt := 80) (4 : Int32) hc6 dX10_told_12 (by decide +kernel) ?_
      exact V_sub [0, 1, 2] rfl (ok_X10_told_b80  x1 x2 q1.2 z  hf)
    rw [if_neg hc6] at hf
    by_cases hc7 : x2 = (5 : Int32)
    · rw [if_pos hc7] at hf
      refine V_tsw (Y := m_X10_told) (pc := 12) (tgt := 87) (5 : Int32) hc7 dX10_told_12 (by decide +kernel) ?_
      refine V_aload_n (Y := m_X10_told) (pc := 87) 0 dX10_told_87 rfl ?_
      refine V_iload_n (Y := m_X10_told) (pc := 88) 1 dX10_told_88 rfl ?_
      refine V_iconst (Y := m_X10_told) (pc := 89) (x := (5 : Int32)) dX10_told_89 (by decide +kernel) ?_
      obtain ⟨q8, hq8, hf⟩ := g_bind hf
      refine V_cVi (Y := m_X10_told) (pc := 90) (As := [.int x1, .int (5 : Int32)]) yf_X10_field kX10 sM_0 (by decide +kernel) (ok_X10_field x1 (5 : Int32) q1.2 _  hq8) tw_1244 tw_20 tw_1242 rfl rfl (Nat.le_of_ble_eq_true rfl) dX10_told_90 ?_
      obtain ⟨q9, hq9, hf⟩ := g_bind hf
      refine V_cSi (Y := m_X10_told) (pc := 93) (As := [.int q8.1]) yf_X10_orNone (by decide +kernel) (ok_X10_orNone q8.1 q8.2 _  hq9) tw_1247 tw_1246 rfl rfl (Nat.le_of_ble_eq_true rfl) dX10_told_93 ?_
      obtain rfl := Option.some.inj hf
      exact V_iret (Y := m_X10_told) rfl dX10_told_96
    rw [if_neg hc7] at hf
    by_cases hc10 : x2 = (6 : Int32)
    · rw [if_pos hc10] at hf
      refine V_tsw (Y := m_X10_told) (pc := 12) (tgt := 97) (6 : Int32) hc10 dX10_told_12 (by decide +kernel) ?_
      refine V_aload_n (Y := m_X10_told) (pc := 97) 0 dX10_told_97 rfl ?_
      refine V_iload_n (Y := m_X10_told) (pc := 98) 1 dX10_told_98 rfl ?_
      obtain ⟨q11, hq11, hf⟩ := g_bind hf
      refine V_cVi (Y := m_X10_told) (pc := 99) (As := [.int x1]) yf_X10_says kX10 sM_0 (by decide +kernel) (ok_X10_says x1 q1.2 _  hq11) tw_1252 tw_21 tw_1250 rfl rfl (Nat.le_of_ble_eq_true rfl) dX10_told_99 ?_
      obtain rfl := Option.some.inj hf
      exact V_iret (Y := m_X10_told) rfl dX10_told_102
    rw [if_neg hc10] at hf
    by_cases hc12 : x2 = (7 : Int32)
    · rw [if_pos hc12] at hf
      refine V_tsw (Y := m_X10_told) (pc := 12) (tgt := 103) (7 : Int32) hc12 dX10_told_12 (by decide +kernel) ?_
      refine V_aload_n (Y := m_X10_told) (pc := 103) 0 dX10_told_103 rfl ?_
      refine V_iload_n (Y := m_X10_told) (pc := 104) 1 dX10_told_104 rfl ?_
      obtain ⟨q13, hq13, hf⟩ := g_bind hf
      refine V_cVi (Y := m_X10_told) (pc := 105) (As := [.int x1]) yf_X10_spanOf kX10 sM_0 (by decide +kernel) (ok_X10_spanOf x1 q1.2 _  hq13) tw_1290 tw_29 tw_1288 rfl rfl (Nat.le_of_ble_eq_true rfl) dX10_told_105 ?_
      obtain rfl := Option.some.inj hf
      exact V_iret (Y := m_X10_told) rfl dX10_told_108
    rw [if_neg hc12] at hf
    by_cases hc14 : x2 = (8 : Int32)
    · rw [if_pos hc14] at hf
      refine V_tsw (Y := m_X10_told) (pc := 12) (tgt := 109) (8 : Int32) hc14 dX10_told_12 (by decide +kernel) ?_
      refine V_aload_n (Y := m_X10_told) (pc := 109) 0 dX10_told_109 rfl ?_
      refine V_iload_n (Y := m_X10_told) (pc := 110) 1 dX10_told_110 rfl ?_
      refine V_iconst (Y := m_X10_told) (pc := 111) (x := (0 : Int32)) dX10_told_111 (by decide +kernel) ?_
      obtain ⟨q15, hq15, hf⟩ := g_bind hf
      refine V_cVi (Y := m_X10_told) (pc := 112) (As := [.int x1, .int (0 : Int32)]) yf_X10_field kX10 sM_0 (by decide +kernel) (ok_X10_field x1 (0 : Int32) q1.2 _  hq15) tw_1244 tw_20 tw_1242 rfl rfl (Nat.le_of_ble_eq_true rfl) dX10_told_112 ?_
      obtain ⟨q16, hq16, hf⟩ := g_bind hf
      refine V_cSi (Y := m_X10_told) (pc := 115) (As := [.int q15.1]) yf_X10_worthOf (by decide +kernel) (ok_X10_worthOf q15.1 q15.2 _  hq16) tw_1293 tw_1292 rfl rfl (Nat.le_of_ble_eq_true rfl) dX10_told_115 ?_
      obtain rfl := Option.some.inj hf
      exact V_iret (Y := m_X10_told) rfl dX10_told_118
    rw [if_neg hc14] at hf
    by_cases hc17 : x2 = (9 : Int32)
    · rw [if_pos hc17] at hf
      refine V_tsw (Y := m_X10_told) (pc := 12) (tgt := 119) (9 : Int32) hc17 dX10_told_12 (by decide +kernel) ?_
      refine V_aload_n (Y := m_X10_told) (pc := 119) 0 dX10_told_119 rfl ?_
      refine V_iload_n (Y := m_X10_told) (pc := 120) 1 dX10_told_120 rfl ?_
      refine V_bipush (Y := m_X10_told) (pc := 121) (x := (6 : Int32)) dX10_told_121 (by decide +kernel) ?_
      obtain ⟨q18, hq18, hf⟩ := g_bind hf
      refine V_cVi (Y := m_X10_told) (pc := 123) (As := [.int x1, .int (6 : Int32)]) yf_X10_field kX10 sM_0 (by decide +kernel) (ok_X10_field x1 (6 : Int32) q1.2 _  hq18) tw_1244 tw_20 tw_1242 rfl rfl (Nat.le_of_ble_eq_true rfl) dX10_told_123 ?_
      obtain ⟨q19, hq19, hf⟩ := g_bind hf
      refine V_cSi (Y := m_X10_told) (pc := 126) (As := [.int q18.1]) yf_X10_orNone (by decide +kernel) (ok_X10_orNone q18.1 q18.2 _  hq19) tw_1247 tw_1246 rfl rfl (Nat.le_of_ble_eq_true rfl) dX10_told_126 ?_
      obtain rfl := Option.some.inj hf
      exact V_iret (Y := m_X10_told) rfl dX10_told_129
    rw [if_neg hc17] at hf
    by_cases hc20 : x2 = (10 : Int32)
    · rw [if_pos hc20] at hf
      refine V_tsw (Y := m_X10_told) (pc := 12) (tgt := 130) (10 : Int32) hc20 dX10_told_12 (by decide +kernel) ?_
      refine V_aload_n (Y := m_X10_told) (pc := 130) 0 dX10_told_130 rfl ?_
      refine V_iload_n (Y := m_X10_told) (pc := 131) 1 dX10_told_131 rfl ?_
      obtain ⟨q21, hq21, hf⟩ := g_bind hf
      refine V_cVi (Y := m_X10_told) (pc := 132) (As := [.int x1]) yf_X10_logOf kX10 sM_0 (by decide +kernel) (ok_X10_logOf x1 q1.2 _  hq21) tw_1256 tw_22 tw_1254 rfl rfl (Nat.le_of_ble_eq_true rfl) dX10_told_132 ?_
      obtain rfl := Option.some.inj hf
      exact V_iret (Y := m_X10_told) rfl dX10_told_135
    rw [if_neg hc20] at hf
    by_cases hc22 : x2 = (11 : Int32)
    · rw [if_pos hc22] at hf
      refine V_tsw (Y := m_X10_told) (pc := 12) (tgt := 136) (11 : Int32) hc22 dX10_told_12 (by decide +kernel) ?_
      refine V_aload_n (Y := m_X10_told) (pc := 136) 0 dX10_told_136 rfl ?_
      refine V_iload_n (Y := m_X10_told) (pc := 137) 1 dX10_told_137 rfl ?_
      obtain ⟨q23, hq23, hf⟩ := g_bind hf
      refine V_cVi (Y := m_X10_told) (pc := 138) (As := [.int x1]) yf_X10_needleOf kX10 sM_0 (by decide +kernel) (ok_X10_needleOf x1 q1.2 _  hq23) tw_1282 tw_27 tw_1280 rfl rfl (Nat.le_of_ble_eq_true rfl) dX10_told_138 ?_
      obtain rfl := Option.some.inj hf
      exact V_iret (Y := m_X10_told) rfl dX10_told_141
    rw [if_neg hc22] at hf
    by_cases hc24 : x2 = (12 : Int32)
    · rw [if_pos hc24] at hf
      refine V_tsw (Y := m_X10_told) (pc := 12) (tgt := 142) (12 : Int32) hc24 dX10_told_12 (by decide +kernel) ?_
      refine V_aload_n (Y := m_X10_told) (pc := 142) 0 dX10_told_142 rfl ?_
      refine V_iload_n (Y := m_X10_told) (pc := 143) 1 dX10_told_143 rfl ?_
      obtain ⟨q25, hq25, hf⟩ := g_bind hf
      refine V_cVi (Y := m_X10_told) (pc := 144) (As := [.int x1]) yf_X10_watchOf kX10 sM_0 (by decide +kernel) (ok_X10_watchOf x1 q1.2 _  hq25) tw_1286 tw_28 tw_1284 rfl rfl (Nat.le_of_ble_eq_true rfl) dX10_told_144 ?_
      obtain rfl := Option.some.inj hf
      exact V_iret (Y := m_X10_told) rfl dX10_told_147
    rw [if_neg hc24] at hf
    refine V_tswO (Y := m_X10_told) (pc := 12) (tgt := 148) [(0 : Int32), (1 : Int32), (2 : Int32), (3 : Int32), (4 : Int32), (5 : Int32), (6 : Int32), (7 : Int32), (8 : Int32), (9 : Int32), (10 : Int32), (11 : Int32), (12 : Int32)] (List.forall_mem_cons.mpr ⟨hc2, (List.forall_mem_cons.mpr ⟨hc3, (List.forall_mem_cons.mpr ⟨hc4, (List.forall_mem_cons.mpr ⟨hc5, (List.forall_mem_cons.mpr ⟨hc6, (List.forall_mem_cons.mpr ⟨hc7, (List.forall_mem_cons.mpr ⟨hc10, (List.forall_mem_cons.mpr ⟨hc12, (List.forall_mem_cons.mpr ⟨hc14, (List.forall_mem_cons.mpr ⟨hc17, (List.forall_mem_cons.mpr ⟨hc20, (List.forall_mem_cons.mpr ⟨hc22, (List.forall_mem_cons.mpr ⟨hc24, (fun _ h => absurd h List.not_mem_nil)⟩)⟩)⟩)⟩)⟩)⟩)⟩)⟩)⟩)⟩)⟩)⟩)⟩) dX10_told_12 (by decide +kernel) (by decide +kernel) ?_
    refine V_ldc (Y := m_X10_told) (pc := 148) (x := (-1000000001 : Int32)) dX10_told_148 tw_1224 ?_
    obtain rfl := Option.some.inj hf
    exact V_iret (Y := m_X10_told) rfl dX10_told_150
  · refine V_ldc (Y := m_X10_told) (pc := 8) (x := (-1000000001 : Int32)) dX10_told_8 tw_1224 ?_
    obtain rfl := Option.some.inj hf
    exact V_iret (Y := m_X10_told) rfl dX10_told_10
def f_X10_told (x1 : Int32) (x2 : Int32) (M : Mem) : Option (Int32 × Mem) := f_X10_told_b0 x1 x2 M
set_option maxRecDepth 20000 in
set_option maxHeartbeats 4000000 in
theorem ok_X10_told {l : Launch} {g : Gam} {b : Nat} : ∀ (x1 : Int32) (x2 : Int32) (M : Mem) (z : Int32 × Mem), f_X10_told x1 x2 M = some z → Cn l g (wM b) m_X10_told [.ref (b + 0), .int x1, .int x2] M (some (.int z.1)) z.2 := fun x1 x2 M z  hf => Cn_of (by decide +kernel) (Nat.le_of_ble_eq_true rfl) (V_sub [0, 1, 2] rfl (ok_X10_told_b0 x1 x2 M z  hf))

abbrev m_X10_isOf : Mth := (yX10_isOf, cX10_isOf, 2, some .boolean, 1)
theorem yf_X10_isOf : YF m_X10_isOf 2 := ⟨tw_1301, tw_75, by decide +kernel, by decide +kernel⟩
def f_X10_isOf_b25   (M : Mem) : Option (Int32 × Mem) :=
  some ((1 : Int32), M)
set_option maxRecDepth 20000 in
set_option maxHeartbeats 4000000 in
theorem ok_X10_isOf_b25 {l : Launch} {g : Gam} {b : Nat}    (M : Mem) (z : Int32 × Mem)  (hf : f_X10_isOf_b25  M = some z) : V l g (wM b) m_X10_isOf 25 [] [] M (some (.int z.1)) z.2 := by
  unfold f_X10_isOf_b25 at hf
  refine V_iconst (Y := m_X10_isOf) (pc := 25) (x := (1 : Int32)) dX10_isOf_25 (by decide +kernel) ?_
  refine V_goto (Y := m_X10_isOf) (pc := 26) (tgt := 30) dX10_isOf_26 (by decide +kernel) ?_
  obtain rfl := Option.some.inj hf
  exact V_zret (Y := m_X10_isOf) z01_1 rfl dX10_isOf_30
def f_X10_isOf_b0  (x0 : Int32) (x1 : Int32) (M : Mem) : Option (Int32 × Mem) :=
  if x1 = 0 then
    f_X10_isOf_b25   M
  else
    if x0 = x1 then
      f_X10_isOf_b25   M
    else
      if x1 = (4 : Int32) then
        if x0 = (5 : Int32) then
          f_X10_isOf_b25   M
        else
          if x0 = (7 : Int32) then
            f_X10_isOf_b25   M
          else
            some ((0 : Int32), M)
      else
        some ((0 : Int32), M)
set_option maxRecDepth 20000 in
set_option maxHeartbeats 4000000 in
theorem ok_X10_isOf_b0 {l : Launch} {g : Gam} {b : Nat}   (x0 : Int32) (x1 : Int32) (M : Mem) (z : Int32 × Mem)  (hf : f_X10_isOf_b0 x0 x1 M = some z) : V l g (wM b) m_X10_isOf 0 [(0, .int x0), (1, .int x1)] [] M (some (.int z.1)) z.2 := by
  unfold f_X10_isOf_b0 at hf
  refine V_iload_n (Y := m_X10_isOf) (pc := 0) 1 dX10_isOf_0 rfl ?_
  refine V_if_eq (Y := m_X10_isOf) (pc := 1) (tgt := 25) dX10_isOf_1 (by decide +kernel) hf (fun hf => ?_) (fun hf => ?_)
  · exact V_sub [] rfl (ok_X10_isOf_b25   M z  hf)
  · refine V_iload_n (Y := m_X10_isOf) (pc := 4) 0 dX10_isOf_4 rfl ?_
    refine V_iload_n (Y := m_X10_isOf) (pc := 5) 1 dX10_isOf_5 rfl ?_
    refine V_icmp_eq (Y := m_X10_isOf) (pc := 6) (tgt := 25) dX10_isOf_6 (by decide +kernel) hf (fun hf => ?_) (fun hf => ?_)
    · exact V_sub [] rfl (ok_X10_isOf_b25   M z  hf)
    · refine V_iload_n (Y := m_X10_isOf) (pc := 9) 1 dX10_isOf_9 rfl ?_
      refine V_iconst (Y := m_X10_isOf) (pc := 10) (x := (4 : Int32)) dX10_isOf_10 (by decide +kernel) ?_
      refine V_icmp_ne (Y := m_X10_isOf) (pc := 11) (tgt := 29) dX10_isOf_11 (by decide +kernel) hf (fun hf => ?_) (fun hf => ?_)
      · refine V_iconst (Y := m_X10_isOf) (pc := 29) (x := (0 : Int32)) dX10_isOf_29 (by decide +kernel) ?_
        obtain rfl := Option.some.inj hf
        exact V_zret (Y := m_X10_isOf) z01_0 rfl dX10_isOf_30
      · refine V_iload_n (Y := m_X10_isOf) (pc := 14) 0 dX10_isOf_14 rfl ?_
        refine V_iconst (Y := m_X10_isOf) (pc := 15) (x := (5 : Int32)) dX10_isOf_15 (by decide +kernel) ?_
        refine V_icmp_eq (Y := m_X10_isOf) (pc := 16) (tgt := 25) dX10_isOf_16 (by decide +kernel) hf (fun hf => ?_) (fun hf => ?_)
        · exact V_sub [] rfl (ok_X10_isOf_b25   M z  hf)
        · refine V_iload_n (Y := m_X10_isOf) (pc := 19) 0 dX10_isOf_19 rfl ?_
          refine V_bipush (Y := m_X10_isOf) (pc := 20) (x := (7 : Int32)) dX10_isOf_20 (by decide +kernel) ?_
          refine V_icmp_ne (Y := m_X10_isOf) (pc := 22) (tgt := 29) dX10_isOf_22 (by decide +kernel) hf (fun hf => ?_) (fun hf => ?_)
          · refine V_iconst (Y := m_X10_isOf) (pc := 29) (x := (0 : Int32)) dX10_isOf_29 (by decide +kernel) ?_
            obtain rfl := Option.some.inj hf
            exact V_zret (Y := m_X10_isOf) z01_0 rfl dX10_isOf_30
          · exact V_sub [] rfl (ok_X10_isOf_b25   M z  hf)
def f_X10_isOf (x0 : Int32) (x1 : Int32) (M : Mem) : Option (Int32 × Mem) := f_X10_isOf_b0 x0 x1 M
set_option maxRecDepth 20000 in
set_option maxHeartbeats 4000000 in
theorem ok_X10_isOf {l : Launch} {g : Gam} {b : Nat} : ∀ (x0 : Int32) (x1 : Int32) (M : Mem) (z : Int32 × Mem), f_X10_isOf x0 x1 M = some z → Cn l g (wM b) m_X10_isOf [.int x0, .int x1] M (some (.int z.1)) z.2 := fun x0 x1 M z  hf => Cn_of (by decide +kernel) (Nat.le_of_ble_eq_true rfl) (V_sub [0, 1] rfl (ok_X10_isOf_b0 x0 x1 M z  hf))

abbrev m_X10_as : Mth := (yX10_as, cX10_as, 3, some .int, 3)
theorem yf_X10_as : YF m_X10_as 2 := ⟨tw_1298, tw_75, by decide +kernel, by decide +kernel⟩
def f_X10_as_b0  (x1 : Int32) (x2 : Int32) (M : Mem) : Option (Int32 × Mem) :=
  (f_X10_isMark x1 M).bind fun q1 =>
  if q1.1 = 0 then
    some ((-1000000001 : Int32), q1.2)
  else
    (f_X10_isIn x2.toInt64 (0 : Int64) (7 : Int64) q1.2).bind fun q2 =>
    if q2.1 = 0 then
      some ((-1000000001 : Int32), q2.2)
    else
      (f_X10_field x1 (0 : Int32) q2.2).bind fun q3 =>
      (f_X10_isOf q3.1 x2 q3.2).bind fun q4 =>
      if q4.1 = 0 then
        some ((-1000000012 : Int32), q4.2)
      else
        (f_X10_field x1 (3 : Int32) q4.2).bind fun q5 =>
        some (q5.1, q5.2)
set_option maxRecDepth 20000 in
set_option maxHeartbeats 4000000 in
theorem ok_X10_as_b0 {l : Launch} {g : Gam} {b : Nat}   (x1 : Int32) (x2 : Int32) (M : Mem) (z : Int32 × Mem)  (hf : f_X10_as_b0 x1 x2 M = some z) : V l g (wM b) m_X10_as 0 [(0, .ref (b + 0)), (1, .int x1), (2, .int x2)] [] M (some (.int z.1)) z.2 := by
  unfold f_X10_as_b0 at hf
  refine V_aload_n (Y := m_X10_as) (pc := 0) 0 dX10_as_0 rfl ?_
  refine V_iload_n (Y := m_X10_as) (pc := 1) 1 dX10_as_1 rfl ?_
  obtain ⟨q1, hq1, hf⟩ := g_bind hf
  refine V_cVi (Y := m_X10_as) (pc := 2) (As := [.int x1]) yf_X10_isMark kX10 sM_0 (by decide +kernel) (ok_X10_isMark x1 M _  hq1) tw_1240 tw_19 tw_1238 rfl rfl (Nat.le_of_ble_eq_true rfl) dX10_as_2 ?_
  refine V_if_eq (Y := m_X10_as) (pc := 5) (tgt := 20) dX10_as_5 (by decide +kernel) hf (fun hf => ?_) (fun hf => ?_)
  · refine V_ldc (Y := m_X10_as) (pc := 20) (x := (-1000000001 : Int32)) dX10_as_20 tw_1224 ?_
    obtain rfl := Option.some.inj hf
    exact V_iret (Y := m_X10_as) rfl dX10_as_22
  · refine V_iload_n (Y := m_X10_as) (pc := 8) 2 dX10_as_8 rfl ?_
    refine V_i2l (Y := m_X10_as) (pc := 9) dX10_as_9 ?_
    refine V_lconst (Y := m_X10_as) (pc := 10) (x := (0 : Int64)) dX10_as_10 (by decide +kernel) ?_
    refine V_ldc2 (Y := m_X10_as) (pc := 11) (x := (7 : Int64)) dX10_as_11 tw_1216 ?_
    obtain ⟨q2, hq2, hf⟩ := g_bind hf
    refine V_cSi (Y := m_X10_as) (pc := 14) (As := [.long x2.toInt64, .long (0 : Int64), .long (7 : Int64)]) yf_X10_isIn (by decide +kernel) (ok_X10_isIn x2.toInt64 (0 : Int64) (7 : Int64) q1.2 _  hq2) tw_1218 tw_1217 rfl rfl (Nat.le_of_ble_eq_true rfl) dX10_as_14 ?_
    refine V_if_ne (Y := m_X10_as) (pc := 17) (tgt := 23) dX10_as_17 (by decide +kernel) hf (fun hf => ?_) (fun hf => ?_)
    · refine V_aload_n (Y := m_X10_as) (pc := 23) 0 dX10_as_23 rfl ?_
      refine V_iload_n (Y := m_X10_as) (pc := 24) 1 dX10_as_24 rfl ?_
      refine V_iconst (Y := m_X10_as) (pc := 25) (x := (0 : Int32)) dX10_as_25 (by decide +kernel) ?_
      obtain ⟨q3, hq3, hf⟩ := g_bind hf
      refine V_cVi (Y := m_X10_as) (pc := 26) (As := [.int x1, .int (0 : Int32)]) yf_X10_field kX10 sM_0 (by decide +kernel) (ok_X10_field x1 (0 : Int32) q2.2 _  hq3) tw_1244 tw_20 tw_1242 rfl rfl (Nat.le_of_ble_eq_true rfl) dX10_as_26 ?_
      refine V_iload_n (Y := m_X10_as) (pc := 29) 2 dX10_as_29 rfl ?_
      obtain ⟨q4, hq4, hf⟩ := g_bind hf
      refine V_cSi (Y := m_X10_as) (pc := 30) (As := [.int q3.1, .int x2]) yf_X10_isOf (by decide +kernel) (ok_X10_isOf q3.1 x2 q3.2 _  hq4) tw_1300 tw_1299 rfl rfl (Nat.le_of_ble_eq_true rfl) dX10_as_30 ?_
      refine V_if_eq (Y := m_X10_as) (pc := 33) (tgt := 45) dX10_as_33 (by decide +kernel) hf (fun hf => ?_) (fun hf => ?_)
      · refine V_ldc (Y := m_X10_as) (pc := 45) (x := (-1000000012 : Int32)) dX10_as_45 tw_1302 ?_
        obtain rfl := Option.some.inj hf
        exact V_iret (Y := m_X10_as) rfl dX10_as_47
      · refine V_aload_n (Y := m_X10_as) (pc := 36) 0 dX10_as_36 rfl ?_
        refine V_iload_n (Y := m_X10_as) (pc := 37) 1 dX10_as_37 rfl ?_
        refine V_iconst (Y := m_X10_as) (pc := 38) (x := (3 : Int32)) dX10_as_38 (by decide +kernel) ?_
        obtain ⟨q5, hq5, hf⟩ := g_bind hf
        refine V_cVi (Y := m_X10_as) (pc := 39) (As := [.int x1, .int (3 : Int32)]) yf_X10_field kX10 sM_0 (by decide +kernel) (ok_X10_field x1 (3 : Int32) q4.2 _  hq5) tw_1244 tw_20 tw_1242 rfl rfl (Nat.le_of_ble_eq_true rfl) dX10_as_39 ?_
        refine V_goto (Y := m_X10_as) (pc := 42) (tgt := 47) dX10_as_42 (by decide +kernel) ?_
        obtain rfl := Option.some.inj hf
        exact V_iret (Y := m_X10_as) rfl dX10_as_47
    · refine V_ldc (Y := m_X10_as) (pc := 20) (x := (-1000000001 : Int32)) dX10_as_20 tw_1224 ?_
      obtain rfl := Option.some.inj hf
      exact V_iret (Y := m_X10_as) rfl dX10_as_22
def f_X10_as (x1 : Int32) (x2 : Int32) (M : Mem) : Option (Int32 × Mem) := f_X10_as_b0 x1 x2 M
set_option maxRecDepth 20000 in
set_option maxHeartbeats 4000000 in
theorem ok_X10_as {l : Launch} {g : Gam} {b : Nat} : ∀ (x1 : Int32) (x2 : Int32) (M : Mem) (z : Int32 × Mem), f_X10_as x1 x2 M = some z → Cn l g (wM b) m_X10_as [.ref (b + 0), .int x1, .int x2] M (some (.int z.1)) z.2 := fun x1 x2 M z  hf => Cn_of (by decide +kernel) (Nat.le_of_ble_eq_true rfl) (V_sub [0, 1, 2] rfl (ok_X10_as_b0 x1 x2 M z  hf))

abbrev m_X10_put : Mth := (yX10_put, cX10_put, 3, some .int, 3)
theorem yf_X10_put : YF m_X10_put 2 := ⟨tw_1306, tw_75, by decide +kernel, by decide +kernel⟩
def f_X10_put_b0  (x1 : Int32) (x2 : Int32) (M : Mem) : Option (Int32 × Mem) :=
  (f_X10_isMark x1 M).bind fun q1 =>
  if q1.1 = 0 then
    some ((-1000000001 : Int32), q1.2)
  else
    (f_X10_isIn x2.toInt64 (-1 : Int64) (8 : Int64) q1.2).bind fun q2 =>
    if q2.1 = 0 then
      some ((-1000000001 : Int32), q2.2)
    else
      (f_X10_markAt x1 q2.2).bind fun q3 =>
      (f_X10_becomes (q3.1 + (5 : Int32)) x2 q3.2).bind fun q4 =>
      (f_X10_orNone q4.1 q4.2).bind fun q5 =>
      some (q5.1, q5.2)
set_option maxRecDepth 20000 in
set_option maxHeartbeats 4000000 in
theorem ok_X10_put_b0 {l : Launch} {g : Gam} {b : Nat}   (x1 : Int32) (x2 : Int32) (M : Mem) (z : Int32 × Mem)  (hf : f_X10_put_b0 x1 x2 M = some z) : V l g (wM b) m_X10_put 0 [(0, .ref (b + 0)), (1, .int x1), (2, .int x2)] [] M (some (.int z.1)) z.2 := by
  unfold f_X10_put_b0 at hf
  refine V_aload_n (Y := m_X10_put) (pc := 0) 0 dX10_put_0 rfl ?_
  refine V_iload_n (Y := m_X10_put) (pc := 1) 1 dX10_put_1 rfl ?_
  obtain ⟨q1, hq1, hf⟩ := g_bind hf
  refine V_cVi (Y := m_X10_put) (pc := 2) (As := [.int x1]) yf_X10_isMark kX10 sM_0 (by decide +kernel) (ok_X10_isMark x1 M _  hq1) tw_1240 tw_19 tw_1238 rfl rfl (Nat.le_of_ble_eq_true rfl) dX10_put_2 ?_
  refine V_if_eq (Y := m_X10_put) (pc := 5) (tgt := 40) dX10_put_5 (by decide +kernel) hf (fun hf => ?_) (fun hf => ?_)
  · refine V_ldc (Y := m_X10_put) (pc := 40) (x := (-1000000001 : Int32)) dX10_put_40 tw_1224 ?_
    obtain rfl := Option.some.inj hf
    exact V_iret (Y := m_X10_put) rfl dX10_put_42
  · refine V_iload_n (Y := m_X10_put) (pc := 8) 2 dX10_put_8 rfl ?_
    refine V_i2l (Y := m_X10_put) (pc := 9) dX10_put_9 ?_
    refine V_ldc2 (Y := m_X10_put) (pc := 10) (x := (-1 : Int64)) dX10_put_10 tw_1307 ?_
    refine V_ldc2 (Y := m_X10_put) (pc := 13) (x := (8 : Int64)) dX10_put_13 tw_1308 ?_
    obtain ⟨q2, hq2, hf⟩ := g_bind hf
    refine V_cSi (Y := m_X10_put) (pc := 16) (As := [.long x2.toInt64, .long (-1 : Int64), .long (8 : Int64)]) yf_X10_isIn (by decide +kernel) (ok_X10_isIn x2.toInt64 (-1 : Int64) (8 : Int64) q1.2 _  hq2) tw_1218 tw_1217 rfl rfl (Nat.le_of_ble_eq_true rfl) dX10_put_16 ?_
    refine V_if_eq (Y := m_X10_put) (pc := 19) (tgt := 40) dX10_put_19 (by decide +kernel) hf (fun hf => ?_) (fun hf => ?_)
    · refine V_ldc (Y := m_X10_put) (pc := 40) (x := (-1000000001 : Int32)) dX10_put_40 tw_1224 ?_
      obtain rfl := Option.some.inj hf
      exact V_iret (Y := m_X10_put) rfl dX10_put_42
    · refine V_aload_n (Y := m_X10_put) (pc := 22) 0 dX10_put_22 rfl ?_
      refine V_aload_n (Y := m_X10_put) (pc := 23) 0 dX10_put_23 rfl ?_
      refine V_iload_n (Y := m_X10_put) (pc := 24) 1 dX10_put_24 rfl ?_
      obtain ⟨q3, hq3, hf⟩ := g_bind hf
      refine V_cVi (Y := m_X10_put) (pc := 25) (As := [.int x1]) yf_X10_markAt kX10 sM_0 (by decide +kernel) (ok_X10_markAt x1 q2.2 _  hq3) tw_1232 tw_18 tw_1230 rfl rfl (Nat.le_of_ble_eq_true rfl) dX10_put_25 ?_
      refine V_iconst (Y := m_X10_put) (pc := 28) (x := (5 : Int32)) dX10_put_28 (by decide +kernel) ?_
      refine V_iadd (Y := m_X10_put) (pc := 29) dX10_put_29 ?_
      refine V_iload_n (Y := m_X10_put) (pc := 30) 2 dX10_put_30 rfl ?_
      obtain ⟨q4, hq4, hf⟩ := g_bind hf
      refine V_cVi (Y := m_X10_put) (pc := 31) (As := [.int (q3.1 + (5 : Int32)), .int x2]) yf_X10_becomes kX10 sM_0 (by decide +kernel) (ok_X10_becomes (q3.1 + (5 : Int32)) x2 q3.2 _  hq4) tw_1311 tw_30 tw_1309 rfl rfl (Nat.le_of_ble_eq_true rfl) dX10_put_31 ?_
      obtain ⟨q5, hq5, hf⟩ := g_bind hf
      refine V_cSi (Y := m_X10_put) (pc := 34) (As := [.int q4.1]) yf_X10_orNone (by decide +kernel) (ok_X10_orNone q4.1 q4.2 _  hq5) tw_1247 tw_1246 rfl rfl (Nat.le_of_ble_eq_true rfl) dX10_put_34 ?_
      refine V_goto (Y := m_X10_put) (pc := 37) (tgt := 42) dX10_put_37 (by decide +kernel) ?_
      obtain rfl := Option.some.inj hf
      exact V_iret (Y := m_X10_put) rfl dX10_put_42
def f_X10_put (x1 : Int32) (x2 : Int32) (M : Mem) : Option (Int32 × Mem) := f_X10_put_b0 x1 x2 M
set_option maxRecDepth 20000 in
set_option maxHeartbeats 4000000 in
theorem ok_X10_put {l : Launch} {g : Gam} {b : Nat} : ∀ (x1 : Int32) (x2 : Int32) (M : Mem) (z : Int32 × Mem), f_X10_put x1 x2 M = some z → Cn l g (wM b) m_X10_put [.ref (b + 0), .int x1, .int x2] M (some (.int z.1)) z.2 := fun x1 x2 M z  hf => Cn_of (by decide +kernel) (Nat.le_of_ble_eq_true rfl) (V_sub [0, 1, 2] rfl (ok_X10_put_b0 x1 x2 M z  hf))

abbrev m_X10_name : Mth := (yX10_name, cX10_name, 3, some .int, 3)
theorem yf_X10_name : YF m_X10_name 2 := ⟨tw_1316, tw_75, by decide +kernel, by decide +kernel⟩
def f_X10_name_b0  (x1 : Int32) (x2 : Int32) (M : Mem) : Option (Int32 × Mem) :=
  (f_X10_isMark x1 M).bind fun q1 =>
  if q1.1 = 0 then
    some ((-1000000001 : Int32), q1.2)
  else
    (f_X10_isIn x2.toInt64 (0 : Int64) (9 : Int64) q1.2).bind fun q2 =>
    if q2.1 = 0 then
      some ((-1000000001 : Int32), q2.2)
    else
      (f_X10_field x1 (0 : Int32) q2.2).bind fun q3 =>
      if q3.1 = (6 : Int32) then
        (f_X10_markAt x1 q3.2).bind fun q4 =>
        (f_X10_becomes (q4.1 + (6 : Int32)) x2 q4.2).bind fun q5 =>
        (f_X10_orNone q5.1 q5.2).bind fun q6 =>
        some (q6.1, q6.2)
      else
        some ((-1000000012 : Int32), q3.2)
set_option maxRecDepth 20000 in
set_option maxHeartbeats 4000000 in
theorem ok_X10_name_b0 {l : Launch} {g : Gam} {b : Nat}   (x1 : Int32) (x2 : Int32) (M : Mem) (z : Int32 × Mem)  (hf : f_X10_name_b0 x1 x2 M = some z) : V l g (wM b) m_X10_name 0 [(0, .ref (b + 0)), (1, .int x1), (2, .int x2)] [] M (some (.int z.1)) z.2 := by
  unfold f_X10_name_b0 at hf
  refine V_aload_n (Y := m_X10_name) (pc := 0) 0 dX10_name_0 rfl ?_
  refine V_iload_n (Y := m_X10_name) (pc := 1) 1 dX10_name_1 rfl ?_
  obtain ⟨q1, hq1, hf⟩ := g_bind hf
  refine V_cVi (Y := m_X10_name) (pc := 2) (As := [.int x1]) yf_X10_isMark kX10 sM_0 (by decide +kernel) (ok_X10_isMark x1 M _  hq1) tw_1240 tw_19 tw_1238 rfl rfl (Nat.le_of_ble_eq_true rfl) dX10_name_2 ?_
  refine V_if_eq (Y := m_X10_name) (pc := 5) (tgt := 20) dX10_name_5 (by decide +kernel) hf (fun hf => ?_) (fun hf => ?_)
  · refine V_ldc (Y := m_X10_name) (pc := 20) (x := (-1000000001 : Int32)) dX10_name_20 tw_1224 ?_
    obtain rfl := Option.some.inj hf
    exact V_iret (Y := m_X10_name) rfl dX10_name_22
  · refine V_iload_n (Y := m_X10_name) (pc := 8) 2 dX10_name_8 rfl ?_
    refine V_i2l (Y := m_X10_name) (pc := 9) dX10_name_9 ?_
    refine V_lconst (Y := m_X10_name) (pc := 10) (x := (0 : Int64)) dX10_name_10 (by decide +kernel) ?_
    refine V_ldc2 (Y := m_X10_name) (pc := 11) (x := (9 : Int64)) dX10_name_11 tw_1317 ?_
    obtain ⟨q2, hq2, hf⟩ := g_bind hf
    refine V_cSi (Y := m_X10_name) (pc := 14) (As := [.long x2.toInt64, .long (0 : Int64), .long (9 : Int64)]) yf_X10_isIn (by decide +kernel) (ok_X10_isIn x2.toInt64 (0 : Int64) (9 : Int64) q1.2 _  hq2) tw_1218 tw_1217 rfl rfl (Nat.le_of_ble_eq_true rfl) dX10_name_14 ?_
    refine V_if_ne (Y := m_X10_name) (pc := 17) (tgt := 23) dX10_name_17 (by decide +kernel) hf (fun hf => ?_) (fun hf => ?_)
    · refine V_aload_n (Y := m_X10_name) (pc := 23) 0 dX10_name_23 rfl ?_
      refine V_iload_n (Y := m_X10_name) (pc := 24) 1 dX10_name_24 rfl ?_
      refine V_iconst (Y := m_X10_name) (pc := 25) (x := (0 : Int32)) dX10_name_25 (by decide +kernel) ?_
      obtain ⟨q3, hq3, hf⟩ := g_bind hf
      refine V_cVi (Y := m_X10_name) (pc := 26) (As := [.int x1, .int (0 : Int32)]) yf_X10_field kX10 sM_0 (by decide +kernel) (ok_X10_field x1 (0 : Int32) q2.2 _  hq3) tw_1244 tw_20 tw_1242 rfl rfl (Nat.le_of_ble_eq_true rfl) dX10_name_26 ?_
      refine V_bipush (Y := m_X10_name) (pc := 29) (x := (6 : Int32)) dX10_name_29 (by decide +kernel) ?_
      refine V_icmp_ne (Y := m_X10_name) (pc := 31) (tgt := 53) dX10_name_31 (by decide +kernel) hf (fun hf => ?_) (fun hf => ?_)
      · refine V_ldc (Y := m_X10_name) (pc := 53) (x := (-1000000012 : Int32)) dX10_name_53 tw_1302 ?_
        obtain rfl := Option.some.inj hf
        exact V_iret (Y := m_X10_name) rfl dX10_name_55
      · refine V_aload_n (Y := m_X10_name) (pc := 34) 0 dX10_name_34 rfl ?_
        refine V_aload_n (Y := m_X10_name) (pc := 35) 0 dX10_name_35 rfl ?_
        refine V_iload_n (Y := m_X10_name) (pc := 36) 1 dX10_name_36 rfl ?_
        obtain ⟨q4, hq4, hf⟩ := g_bind hf
        refine V_cVi (Y := m_X10_name) (pc := 37) (As := [.int x1]) yf_X10_markAt kX10 sM_0 (by decide +kernel) (ok_X10_markAt x1 q3.2 _  hq4) tw_1232 tw_18 tw_1230 rfl rfl (Nat.le_of_ble_eq_true rfl) dX10_name_37 ?_
        refine V_bipush (Y := m_X10_name) (pc := 40) (x := (6 : Int32)) dX10_name_40 (by decide +kernel) ?_
        refine V_iadd (Y := m_X10_name) (pc := 42) dX10_name_42 ?_
        refine V_iload_n (Y := m_X10_name) (pc := 43) 2 dX10_name_43 rfl ?_
        obtain ⟨q5, hq5, hf⟩ := g_bind hf
        refine V_cVi (Y := m_X10_name) (pc := 44) (As := [.int (q4.1 + (6 : Int32)), .int x2]) yf_X10_becomes kX10 sM_0 (by decide +kernel) (ok_X10_becomes (q4.1 + (6 : Int32)) x2 q4.2 _  hq5) tw_1311 tw_30 tw_1309 rfl rfl (Nat.le_of_ble_eq_true rfl) dX10_name_44 ?_
        obtain ⟨q6, hq6, hf⟩ := g_bind hf
        refine V_cSi (Y := m_X10_name) (pc := 47) (As := [.int q5.1]) yf_X10_orNone (by decide +kernel) (ok_X10_orNone q5.1 q5.2 _  hq6) tw_1247 tw_1246 rfl rfl (Nat.le_of_ble_eq_true rfl) dX10_name_47 ?_
        refine V_goto (Y := m_X10_name) (pc := 50) (tgt := 55) dX10_name_50 (by decide +kernel) ?_
        obtain rfl := Option.some.inj hf
        exact V_iret (Y := m_X10_name) rfl dX10_name_55
    · refine V_ldc (Y := m_X10_name) (pc := 20) (x := (-1000000001 : Int32)) dX10_name_20 tw_1224 ?_
      obtain rfl := Option.some.inj hf
      exact V_iret (Y := m_X10_name) rfl dX10_name_22
def f_X10_name (x1 : Int32) (x2 : Int32) (M : Mem) : Option (Int32 × Mem) := f_X10_name_b0 x1 x2 M
set_option maxRecDepth 20000 in
set_option maxHeartbeats 4000000 in
theorem ok_X10_name {l : Launch} {g : Gam} {b : Nat} : ∀ (x1 : Int32) (x2 : Int32) (M : Mem) (z : Int32 × Mem), f_X10_name x1 x2 M = some z → Cn l g (wM b) m_X10_name [.ref (b + 0), .int x1, .int x2] M (some (.int z.1)) z.2 := fun x1 x2 M z  hf => Cn_of (by decide +kernel) (Nat.le_of_ble_eq_true rfl) (V_sub [0, 1, 2] rfl (ok_X10_name_b0 x1 x2 M z  hf))

abbrev m_X10_feed : Mth := (yX10_feed, cX10_feed, 6, some .int, 1)
theorem yf_X10_feed : YF m_X10_feed 3 := ⟨tw_1321, tw_75, by decide +kernel, by decide +kernel⟩
def f_X10_feed_b91   (M : Mem) : Option (Int32 × Mem) :=
  some ((M 0 13), M)
set_option maxRecDepth 20000 in
set_option maxHeartbeats 4000000 in
theorem ok_X10_feed_b91 {l : Launch} {g : Gam} {b : Nat}    (M : Mem) (z : Int32 × Mem)  (hf : f_X10_feed_b91  M = some z) : V l g (wM b) m_X10_feed 91 [(0, .ref (b + 0))] [] M (some (.int z.1)) z.2 := by
  unfold f_X10_feed_b91 at hf
  refine V_aload_n (Y := m_X10_feed) (pc := 91) 0 dX10_feed_91 rfl ?_
  refine V_gi (Y := m_X10_feed) (pc := 92) 13 kX10 sM_0 (by decide +kernel) rfl tw_1083 dX10_feed_92 ?_
  obtain rfl := Option.some.inj hf
  exact V_iret (Y := m_X10_feed) rfl dX10_feed_95
def f_X10_feed_bc75_1 (k18 : Int32 → Int32 → Int32 → Int32 → Mem → Option (Int32 × Mem)) (x1 : Int32) (x2 : Int32) (x3 : Int32) (x4 : Int32) (M : Mem) : Option (Int32 × Mem) :=
  k18 x1 x2 x3 (x4 + (1 : Int32)) (mset M 0 13 ((M 0 13) + (1 : Int32)))
set_option maxRecDepth 20000 in
set_option maxHeartbeats 4000000 in
theorem ok_X10_feed_bc75_1 {l : Launch} {g : Gam} {b : Nat} (k18 : Int32 → Int32 → Int32 → Int32 → Mem → Option (Int32 × Mem)) (hk18 : ∀ (x1 : Int32) (x2 : Int32) (x3 : Int32) (x4 : Int32) (M : Mem) (z : Int32 × Mem), k18 x1 x2 x3 x4 M = some z → V l g (wM b) m_X10_feed 18 [(0, .ref (b + 0)), (1, .int x1), (2, .int x2), (3, .int x3), (4, .int x4)] [] M (some (.int z.1)) z.2) (x1 : Int32) (x2 : Int32) (x3 : Int32) (x4 : Int32) (M : Mem) (z : Int32 × Mem)  (hf : f_X10_feed_bc75_1 k18 x1 x2 x3 x4 M = some z) : V l g (wM b) m_X10_feed 75 [(0, .ref (b + 0)), (1, .int x1), (2, .int x2), (3, .int x3), (4, .int x4)] [] M (some (.int z.1)) z.2 := by
  unfold f_X10_feed_bc75_1 at hf
  refine V_aload_n (Y := m_X10_feed) (pc := 75) 0 dX10_feed_75 rfl ?_
  refine V_dup (Y := m_X10_feed) (pc := 76) dX10_feed_76 rfl ?_
  refine V_gi (Y := m_X10_feed) (pc := 77) 13 kX10 sM_0 (by decide +kernel) rfl tw_1083 dX10_feed_77 ?_
  refine V_iconst (Y := m_X10_feed) (pc := 80) (x := (1 : Int32)) dX10_feed_80 (by decide +kernel) ?_
  refine V_iadd (Y := m_X10_feed) (pc := 81) dX10_feed_81 ?_
  refine V_pi (Y := m_X10_feed) (pc := 82) 13 kX10 sM_0 (by decide +kernel) rfl rfl rfl tw_1083 dX10_feed_82 ?_
  refine V_iinc (Y := m_X10_feed) (pc := 85) (y := (x4 + (1 : Int32))) 4 [(4, .int (x4 + (1 : Int32))), (0, .ref (b + 0)), (1, .int x1), (2, .int x2), (3, .int x3)] dX10_feed_85 rfl rfl (by decide +kernel) rfl ?_
  refine V_goto (Y := m_X10_feed) (pc := 88) (tgt := 18) dX10_feed_88 (by decide +kernel) ?_
  exact V_sub [1, 2, 3, 4, 0] rfl (hk18 x1 x2 x3 (x4 + (1 : Int32)) (mset M 0 13 ((M 0 13) + (1 : Int32))) z  hf)
def f_X10_feed_b47 (k18 : Int32 → Int32 → Int32 → Int32 → Mem → Option (Int32 × Mem)) (x1 : Int32) (x2 : Int32) (x3 : Int32) (x4 : Int32) (s0 : Int32) (M : Mem) : Option (Int32 × Mem) :=
  if ixb (M 0 13) 96 = true then
  f_X10_feed_bc75_1 k18 x1 x2 x3 x4 (mset M 12 (ix (M 0 13)) ((s0 >>> (((24 : Int32) - ((8 : Int32) * (irem x4 (4 : Int32)))) &&& 31)) &&& (255 : Int32)))
  else none
set_option maxRecDepth 20000 in
set_option maxHeartbeats 4000000 in
theorem ok_X10_feed_b47 {l : Launch} {g : Gam} {b : Nat} (k18 : Int32 → Int32 → Int32 → Int32 → Mem → Option (Int32 × Mem)) (hk18 : ∀ (x1 : Int32) (x2 : Int32) (x3 : Int32) (x4 : Int32) (M : Mem) (z : Int32 × Mem), k18 x1 x2 x3 x4 M = some z → V l g (wM b) m_X10_feed 18 [(0, .ref (b + 0)), (1, .int x1), (2, .int x2), (3, .int x3), (4, .int x4)] [] M (some (.int z.1)) z.2) (x1 : Int32) (x2 : Int32) (x3 : Int32) (x4 : Int32) (s0 : Int32) (M : Mem) (z : Int32 × Mem)  (hf : f_X10_feed_b47 k18 x1 x2 x3 x4 s0 M = some z) : V l g (wM b) m_X10_feed 47 [(0, .ref (b + 0)), (1, .int x1), (2, .int x2), (3, .int x3), (4, .int x4)] [.int s0] M (some (.int z.1)) z.2 := by
  unfold f_X10_feed_b47 at hf
  refine V_istore (Y := m_X10_feed) (pc := 47) [(5, .int s0), (0, .ref (b + 0)), (1, .int x1), (2, .int x2), (3, .int x3), (4, .int x4)] dX10_feed_47 (by decide +kernel) rfl ?_
  refine V_aload_n (Y := m_X10_feed) (pc := 49) 1 dX10_feed_49 rfl ?_
  refine V_grL (Y := m_X10_feed) (pc := 50) (x := 12) 12 kX10 sM_0 (by decide +kernel) rfl rfl tw_1082 dX10_feed_50 ?_
  refine V_aload_n (Y := m_X10_feed) (pc := 53) 1 dX10_feed_53 rfl ?_
  refine V_gi (Y := m_X10_feed) (pc := 54) 13 kX10 sM_0 (by decide +kernel) rfl tw_1083 dX10_feed_54 ?_
  refine V_iload (Y := m_X10_feed) (pc := 57) 0 dX10_feed_57 rfl ?_
  refine V_bipush (Y := m_X10_feed) (pc := 59) (x := (24 : Int32)) dX10_feed_59 (by decide +kernel) ?_
  refine V_bipush (Y := m_X10_feed) (pc := 61) (x := (8 : Int32)) dX10_feed_61 (by decide +kernel) ?_
  refine V_iload (Y := m_X10_feed) (pc := 63) 5 dX10_feed_63 rfl ?_
  refine V_iconst (Y := m_X10_feed) (pc := 65) (x := (4 : Int32)) dX10_feed_65 (by decide +kernel) ?_
  refine V_irem (Y := m_X10_feed) (pc := 66) dX10_feed_66 (by decide +kernel) ?_
  refine V_imul (Y := m_X10_feed) (pc := 67) dX10_feed_67 ?_
  refine V_isub (Y := m_X10_feed) (pc := 68) dX10_feed_68 ?_
  refine V_ishr (Y := m_X10_feed) (pc := 69) dX10_feed_69 ?_
  refine V_sipush (Y := m_X10_feed) (pc := 70) (x := (255 : Int32)) dX10_feed_70 (by decide +kernel) ?_
  refine V_iand (Y := m_X10_feed) (pc := 73) dX10_feed_73 ?_
  obtain ⟨hi1, hf⟩ := g_if hf
  refine V_iast (Y := m_X10_feed) (pc := 74) sM_12 hi1 dX10_feed_74 ?_
  exact V_sub [1, 2, 3, 4, 5] rfl (ok_X10_feed_bc75_1 k18 hk18 x1 x2 x3 x4 (mset M 12 (ix (M 0 13)) ((s0 >>> (((24 : Int32) - ((8 : Int32) * (irem x4 (4 : Int32)))) &&& 31)) &&& (255 : Int32))) z  hf)
def f_X10_feed_b18  : Nat → Int32 → Int32 → Int32 → Int32 → Mem → Option (Int32 × Mem)
  | 0, _, _, _, _, _ => none
  | n + 1, x1, x2, x3, x4, M =>
    if (12 : Int32) ≤ x4 then
      f_X10_feed_b91   M
    else
      if (4 : Int32) ≤ x4 then
        if (8 : Int32) ≤ x4 then
          f_X10_feed_b47 (f_X10_feed_b18  n) x1 x2 x3 x4 x3 M
        else
          f_X10_feed_b47 (f_X10_feed_b18  n) x1 x2 x3 x4 x2 M
      else
        f_X10_feed_b47 (f_X10_feed_b18  n) x1 x2 x3 x4 x1 M
set_option maxRecDepth 20000 in
set_option maxHeartbeats 4000000 in
theorem ok_X10_feed_b18 {l : Launch} {g : Gam} {b : Nat}   : ∀ (n : Nat) (x1 : Int32) (x2 : Int32) (x3 : Int32) (x4 : Int32) (M : Mem) (z : Int32 × Mem), f_X10_feed_b18  n x1 x2 x3 x4 M = some z → V l g (wM b) m_X10_feed 18 [(0, .ref (b + 0)), (1, .int x1), (2, .int x2), (3, .int x3), (4, .int x4)] [] M (some (.int z.1)) z.2 := by
  intro n
  induction n with
  | zero =>
    intro x1 x2 x3 x4 M z  hf
    cases hf
  | succ n ih =>
    intro x1 x2 x3 x4 M z  hf
    rw [f_X10_feed_b18] at hf
    refine V_iload (Y := m_X10_feed) (pc := 18) 4 dX10_feed_18 rfl ?_
    refine V_bipush (Y := m_X10_feed) (pc := 20) (x := (12 : Int32)) dX10_feed_20 (by decide +kernel) ?_
    refine V_icmp_ge (Y := m_X10_feed) (pc := 22) (tgt := 91) dX10_feed_22 (by decide +kernel) hf (fun hf => ?_) (fun hf => ?_)
    · exact V_sub [0] rfl (ok_X10_feed_b91   M z  hf)
    · refine V_iload (Y := m_X10_feed) (pc := 25) 4 dX10_feed_25 rfl ?_
      refine V_iconst (Y := m_X10_feed) (pc := 27) (x := (4 : Int32)) dX10_feed_27 (by decide +kernel) ?_
      refine V_icmp_ge (Y := m_X10_feed) (pc := 28) (tgt := 35) dX10_feed_28 (by decide +kernel) hf (fun hf => ?_) (fun hf => ?_)
      · refine V_iload (Y := m_X10_feed) (pc := 35) 4 dX10_feed_35 rfl ?_
        refine V_bipush (Y := m_X10_feed) (pc := 37) (x := (8 : Int32)) dX10_feed_37 (by decide +kernel) ?_
        refine V_icmp_ge (Y := m_X10_feed) (pc := 39) (tgt := 46) dX10_feed_39 (by decide +kernel) hf (fun hf => ?_) (fun hf => ?_)
        · refine V_iload_n (Y := m_X10_feed) (pc := 46) 3 dX10_feed_46 rfl ?_
          exact V_sub [0, 1, 2, 3, 4] rfl (ok_X10_feed_b47 (f_X10_feed_b18  n) ih x1 x2 x3 x4 x3 M z  hf)
        · refine V_iload_n (Y := m_X10_feed) (pc := 42) 2 dX10_feed_42 rfl ?_
          refine V_goto (Y := m_X10_feed) (pc := 43) (tgt := 47) dX10_feed_43 (by decide +kernel) ?_
          exact V_sub [0, 1, 2, 3, 4] rfl (ok_X10_feed_b47 (f_X10_feed_b18  n) ih x1 x2 x3 x4 x2 M z  hf)
      · refine V_iload_n (Y := m_X10_feed) (pc := 31) 1 dX10_feed_31 rfl ?_
        refine V_goto (Y := m_X10_feed) (pc := 32) (tgt := 47) dX10_feed_32 (by decide +kernel) ?_
        exact V_sub [0, 1, 2, 3, 4] rfl (ok_X10_feed_b47 (f_X10_feed_b18  n) ih x1 x2 x3 x4 x1 M z  hf)
def f_X10_feed_b0  (x1 : Int32) (x2 : Int32) (x3 : Int32) (M : Mem) : Option (Int32 × Mem) :=
  if ((M 0 13) + (12 : Int32)) ≤ (96 : Int32) then
    f_X10_feed_b18  FU x1 x2 x3 (0 : Int32) M
  else
    some ((-1000000003 : Int32), M)
set_option maxRecDepth 20000 in
set_option maxHeartbeats 4000000 in
theorem ok_X10_feed_b0 {l : Launch} {g : Gam} {b : Nat}   (x1 : Int32) (x2 : Int32) (x3 : Int32) (M : Mem) (z : Int32 × Mem)  (hf : f_X10_feed_b0 x1 x2 x3 M = some z) : V l g (wM b) m_X10_feed 0 [(0, .ref (b + 0)), (1, .int x1), (2, .int x2), (3, .int x3)] [] M (some (.int z.1)) z.2 := by
  unfold f_X10_feed_b0 at hf
  refine V_aload_n (Y := m_X10_feed) (pc := 0) 0 dX10_feed_0 rfl ?_
  refine V_gi (Y := m_X10_feed) (pc := 1) 13 kX10 sM_0 (by decide +kernel) rfl tw_1083 dX10_feed_1 ?_
  refine V_bipush (Y := m_X10_feed) (pc := 4) (x := (12 : Int32)) dX10_feed_4 (by decide +kernel) ?_
  refine V_iadd (Y := m_X10_feed) (pc := 6) dX10_feed_6 ?_
  refine V_bipush (Y := m_X10_feed) (pc := 7) (x := (96 : Int32)) dX10_feed_7 (by decide +kernel) ?_
  refine V_icmp_le (Y := m_X10_feed) (pc := 9) (tgt := 15) dX10_feed_9 (by decide +kernel) hf (fun hf => ?_) (fun hf => ?_)
  · refine V_iconst (Y := m_X10_feed) (pc := 15) (x := (0 : Int32)) dX10_feed_15 (by decide +kernel) ?_
    refine V_istore (Y := m_X10_feed) (pc := 16) [(4, .int (0 : Int32)), (0, .ref (b + 0)), (1, .int x1), (2, .int x2), (3, .int x3)] dX10_feed_16 (by decide +kernel) rfl ?_
    exact V_sub [1, 2, 3, 4, 0] rfl (ok_X10_feed_b18  FU x1 x2 x3 (0 : Int32) M z  hf)
  · refine V_ldc (Y := m_X10_feed) (pc := 12) (x := (-1000000003 : Int32)) dX10_feed_12 tw_1225 ?_
    obtain rfl := Option.some.inj hf
    exact V_iret (Y := m_X10_feed) rfl dX10_feed_14
def f_X10_feed (x1 : Int32) (x2 : Int32) (x3 : Int32) (M : Mem) : Option (Int32 × Mem) := f_X10_feed_b0 x1 x2 x3 M
set_option maxRecDepth 20000 in
set_option maxHeartbeats 4000000 in
theorem ok_X10_feed {l : Launch} {g : Gam} {b : Nat} : ∀ (x1 : Int32) (x2 : Int32) (x3 : Int32) (M : Mem) (z : Int32 × Mem), f_X10_feed x1 x2 x3 M = some z → Cn l g (wM b) m_X10_feed [.ref (b + 0), .int x1, .int x2, .int x3] M (some (.int z.1)) z.2 := fun x1 x2 x3 M z  hf => Cn_of (by decide +kernel) (Nat.le_of_ble_eq_true rfl) (V_sub [0, 1, 2, 3] rfl (ok_X10_feed_b0 x1 x2 x3 M z  hf))

abbrev m_X10_trim : Mth := (yX10_trim, cX10_trim, 2, some .int, 2)
theorem yf_X10_trim : YF m_X10_trim 1 := ⟨tw_1325, tw_75, by decide +kernel, by decide +kernel⟩
def f_X10_trim_b0  (x1 : Int32) (M : Mem) : Option (Int32 × Mem) :=
  (f_X10_isIn x1.toInt64 (0 : Int64) (M 0 13).toInt64 M).bind fun q1 =>
  if q1.1 = 0 then
    some ((-1000000001 : Int32), q1.2)
  else
    some (x1, (mset q1.2 0 13 x1))
set_option maxRecDepth 20000 in
set_option maxHeartbeats 4000000 in
theorem ok_X10_trim_b0 {l : Launch} {g : Gam} {b : Nat}   (x1 : Int32) (M : Mem) (z : Int32 × Mem)  (hf : f_X10_trim_b0 x1 M = some z) : V l g (wM b) m_X10_trim 0 [(0, .ref (b + 0)), (1, .int x1)] [] M (some (.int z.1)) z.2 := by
  unfold f_X10_trim_b0 at hf
  refine V_iload_n (Y := m_X10_trim) (pc := 0) 1 dX10_trim_0 rfl ?_
  refine V_i2l (Y := m_X10_trim) (pc := 1) dX10_trim_1 ?_
  refine V_lconst (Y := m_X10_trim) (pc := 2) (x := (0 : Int64)) dX10_trim_2 (by decide +kernel) ?_
  refine V_aload_n (Y := m_X10_trim) (pc := 3) 0 dX10_trim_3 rfl ?_
  refine V_gi (Y := m_X10_trim) (pc := 4) 13 kX10 sM_0 (by decide +kernel) rfl tw_1083 dX10_trim_4 ?_
  refine V_i2l (Y := m_X10_trim) (pc := 7) dX10_trim_7 ?_
  obtain ⟨q1, hq1, hf⟩ := g_bind hf
  refine V_cSi (Y := m_X10_trim) (pc := 8) (As := [.long x1.toInt64, .long (0 : Int64), .long (M 0 13).toInt64]) yf_X10_isIn (by decide +kernel) (ok_X10_isIn x1.toInt64 (0 : Int64) (M 0 13).toInt64 M _  hq1) tw_1218 tw_1217 rfl rfl (Nat.le_of_ble_eq_true rfl) dX10_trim_8 ?_
  refine V_if_ne (Y := m_X10_trim) (pc := 11) (tgt := 17) dX10_trim_11 (by decide +kernel) hf (fun hf => ?_) (fun hf => ?_)
  · refine V_aload_n (Y := m_X10_trim) (pc := 17) 0 dX10_trim_17 rfl ?_
    refine V_iload_n (Y := m_X10_trim) (pc := 18) 1 dX10_trim_18 rfl ?_
    refine V_pi (Y := m_X10_trim) (pc := 19) 13 kX10 sM_0 (by decide +kernel) rfl rfl rfl tw_1083 dX10_trim_19 ?_
    refine V_iload_n (Y := m_X10_trim) (pc := 22) 1 dX10_trim_22 rfl ?_
    obtain rfl := Option.some.inj hf
    exact V_iret (Y := m_X10_trim) rfl dX10_trim_23
  · refine V_ldc (Y := m_X10_trim) (pc := 14) (x := (-1000000001 : Int32)) dX10_trim_14 tw_1224 ?_
    obtain rfl := Option.some.inj hf
    exact V_iret (Y := m_X10_trim) rfl dX10_trim_16
def f_X10_trim (x1 : Int32) (M : Mem) : Option (Int32 × Mem) := f_X10_trim_b0 x1 M
set_option maxRecDepth 20000 in
set_option maxHeartbeats 4000000 in
theorem ok_X10_trim {l : Launch} {g : Gam} {b : Nat} : ∀ (x1 : Int32) (M : Mem) (z : Int32 × Mem), f_X10_trim x1 M = some z → Cn l g (wM b) m_X10_trim [.ref (b + 0), .int x1] M (some (.int z.1)) z.2 := fun x1 M z  hf => Cn_of (by decide +kernel) (Nat.le_of_ble_eq_true rfl) (V_sub [0, 1] rfl (ok_X10_trim_b0 x1 M z  hf))

abbrev m_X10_isLetter : Mth := (yX10_isLetter, cX10_isLetter, 2, some .boolean, 2)
theorem yf_X10_isLetter : YF m_X10_isLetter 1 := ⟨tw_1341, tw_75, by decide +kernel, by decide +kernel⟩
def f_X10_isLetter_b0  (x1 : Int32) (M : Mem) : Option (Int32 × Mem) :=
  if (M 0 13) ≤ x1 then
    some ((0 : Int32), M)
  else
    if ixb x1 96 = true then
    (f_X10_isIn (M 12 (ix x1)).toInt64 (97 : Int64) (122 : Int64) M).bind fun q2 =>
    if q2.1 = 0 then
      some ((0 : Int32), q2.2)
    else
      some ((1 : Int32), q2.2)
    else none
set_option maxRecDepth 20000 in
set_option maxHeartbeats 4000000 in
theorem ok_X10_isLetter_b0 {l : Launch} {g : Gam} {b : Nat}   (x1 : Int32) (M : Mem) (z : Int32 × Mem)  (hf : f_X10_isLetter_b0 x1 M = some z) : V l g (wM b) m_X10_isLetter 0 [(0, .ref (b + 0)), (1, .int x1)] [] M (some (.int z.1)) z.2 := by
  unfold f_X10_isLetter_b0 at hf
  refine V_iload_n (Y := m_X10_isLetter) (pc := 0) 1 dX10_isLetter_0 rfl ?_
  refine V_aload_n (Y := m_X10_isLetter) (pc := 1) 0 dX10_isLetter_1 rfl ?_
  refine V_gi (Y := m_X10_isLetter) (pc := 2) 13 kX10 sM_0 (by decide +kernel) rfl tw_1083 dX10_isLetter_2 ?_
  refine V_icmp_ge (Y := m_X10_isLetter) (pc := 5) (tgt := 31) dX10_isLetter_5 (by decide +kernel) hf (fun hf => ?_) (fun hf => ?_)
  · refine V_iconst (Y := m_X10_isLetter) (pc := 31) (x := (0 : Int32)) dX10_isLetter_31 (by decide +kernel) ?_
    obtain rfl := Option.some.inj hf
    exact V_zret (Y := m_X10_isLetter) z01_0 rfl dX10_isLetter_32
  · refine V_aload_n (Y := m_X10_isLetter) (pc := 8) 0 dX10_isLetter_8 rfl ?_
    refine V_grL (Y := m_X10_isLetter) (pc := 9) (x := 12) 12 kX10 sM_0 (by decide +kernel) rfl rfl tw_1082 dX10_isLetter_9 ?_
    refine V_iload_n (Y := m_X10_isLetter) (pc := 12) 1 dX10_isLetter_12 rfl ?_
    obtain ⟨hi1, hf⟩ := g_if hf
    refine V_iald (Y := m_X10_isLetter) (pc := 13) sM_12 hi1 dX10_isLetter_13 ?_
    refine V_i2l (Y := m_X10_isLetter) (pc := 14) dX10_isLetter_14 ?_
    refine V_ldc2 (Y := m_X10_isLetter) (pc := 15) (x := (97 : Int64)) dX10_isLetter_15 tw_1342 ?_
    refine V_ldc2 (Y := m_X10_isLetter) (pc := 18) (x := (122 : Int64)) dX10_isLetter_18 tw_1343 ?_
    obtain ⟨q2, hq2, hf⟩ := g_bind hf
    refine V_cSi (Y := m_X10_isLetter) (pc := 21) (As := [.long (M 12 (ix x1)).toInt64, .long (97 : Int64), .long (122 : Int64)]) yf_X10_isIn (by decide +kernel) (ok_X10_isIn (M 12 (ix x1)).toInt64 (97 : Int64) (122 : Int64) M _  hq2) tw_1218 tw_1217 rfl rfl (Nat.le_of_ble_eq_true rfl) dX10_isLetter_21 ?_
    refine V_if_eq (Y := m_X10_isLetter) (pc := 24) (tgt := 31) dX10_isLetter_24 (by decide +kernel) hf (fun hf => ?_) (fun hf => ?_)
    · refine V_iconst (Y := m_X10_isLetter) (pc := 31) (x := (0 : Int32)) dX10_isLetter_31 (by decide +kernel) ?_
      obtain rfl := Option.some.inj hf
      exact V_zret (Y := m_X10_isLetter) z01_0 rfl dX10_isLetter_32
    · refine V_iconst (Y := m_X10_isLetter) (pc := 27) (x := (1 : Int32)) dX10_isLetter_27 (by decide +kernel) ?_
      refine V_goto (Y := m_X10_isLetter) (pc := 28) (tgt := 32) dX10_isLetter_28 (by decide +kernel) ?_
      obtain rfl := Option.some.inj hf
      exact V_zret (Y := m_X10_isLetter) z01_1 rfl dX10_isLetter_32
def f_X10_isLetter (x1 : Int32) (M : Mem) : Option (Int32 × Mem) := f_X10_isLetter_b0 x1 M
set_option maxRecDepth 20000 in
set_option maxHeartbeats 4000000 in
theorem ok_X10_isLetter {l : Launch} {g : Gam} {b : Nat} : ∀ (x1 : Int32) (M : Mem) (z : Int32 × Mem), f_X10_isLetter x1 M = some z → Cn l g (wM b) m_X10_isLetter [.ref (b + 0), .int x1] M (some (.int z.1)) z.2 := fun x1 M z  hf => Cn_of (by decide +kernel) (Nat.le_of_ble_eq_true rfl) (V_sub [0, 1] rfl (ok_X10_isLetter_b0 x1 M z  hf))

abbrev m_X10_isDigit : Mth := (yX10_isDigit, cX10_isDigit, 2, some .boolean, 2)
theorem yf_X10_isDigit : YF m_X10_isDigit 1 := ⟨tw_1347, tw_75, by decide +kernel, by decide +kernel⟩
def f_X10_isDigit_b0  (x1 : Int32) (M : Mem) : Option (Int32 × Mem) :=
  if (M 0 13) ≤ x1 then
    some ((0 : Int32), M)
  else
    if ixb x1 96 = true then
    (f_X10_isIn (M 12 (ix x1)).toInt64 (48 : Int64) (57 : Int64) M).bind fun q2 =>
    if q2.1 = 0 then
      some ((0 : Int32), q2.2)
    else
      some ((1 : Int32), q2.2)
    else none
set_option maxRecDepth 20000 in
set_option maxHeartbeats 4000000 in
theorem ok_X10_isDigit_b0 {l : Launch} {g : Gam} {b : Nat}   (x1 : Int32) (M : Mem) (z : Int32 × Mem)  (hf : f_X10_isDigit_b0 x1 M = some z) : V l g (wM b) m_X10_isDigit 0 [(0, .ref (b + 0)), (1, .int x1)] [] M (some (.int z.1)) z.2 := by
  unfold f_X10_isDigit_b0 at hf
  refine V_iload_n (Y := m_X10_isDigit) (pc := 0) 1 dX10_isDigit_0 rfl ?_
  refine V_aload_n (Y := m_X10_isDigit) (pc := 1) 0 dX10_isDigit_1 rfl ?_
  refine V_gi (Y := m_X10_isDigit) (pc := 2) 13 kX10 sM_0 (by decide +kernel) rfl tw_1083 dX10_isDigit_2 ?_
  refine V_icmp_ge (Y := m_X10_isDigit) (pc := 5) (tgt := 31) dX10_isDigit_5 (by decide +kernel) hf (fun hf => ?_) (fun hf => ?_)
  · refine V_iconst (Y := m_X10_isDigit) (pc := 31) (x := (0 : Int32)) dX10_isDigit_31 (by decide +kernel) ?_
    obtain rfl := Option.some.inj hf
    exact V_zret (Y := m_X10_isDigit) z01_0 rfl dX10_isDigit_32
  · refine V_aload_n (Y := m_X10_isDigit) (pc := 8) 0 dX10_isDigit_8 rfl ?_
    refine V_grL (Y := m_X10_isDigit) (pc := 9) (x := 12) 12 kX10 sM_0 (by decide +kernel) rfl rfl tw_1082 dX10_isDigit_9 ?_
    refine V_iload_n (Y := m_X10_isDigit) (pc := 12) 1 dX10_isDigit_12 rfl ?_
    obtain ⟨hi1, hf⟩ := g_if hf
    refine V_iald (Y := m_X10_isDigit) (pc := 13) sM_12 hi1 dX10_isDigit_13 ?_
    refine V_i2l (Y := m_X10_isDigit) (pc := 14) dX10_isDigit_14 ?_
    refine V_ldc2 (Y := m_X10_isDigit) (pc := 15) (x := (48 : Int64)) dX10_isDigit_15 tw_1348 ?_
    refine V_ldc2 (Y := m_X10_isDigit) (pc := 18) (x := (57 : Int64)) dX10_isDigit_18 tw_1349 ?_
    obtain ⟨q2, hq2, hf⟩ := g_bind hf
    refine V_cSi (Y := m_X10_isDigit) (pc := 21) (As := [.long (M 12 (ix x1)).toInt64, .long (48 : Int64), .long (57 : Int64)]) yf_X10_isIn (by decide +kernel) (ok_X10_isIn (M 12 (ix x1)).toInt64 (48 : Int64) (57 : Int64) M _  hq2) tw_1218 tw_1217 rfl rfl (Nat.le_of_ble_eq_true rfl) dX10_isDigit_21 ?_
    refine V_if_eq (Y := m_X10_isDigit) (pc := 24) (tgt := 31) dX10_isDigit_24 (by decide +kernel) hf (fun hf => ?_) (fun hf => ?_)
    · refine V_iconst (Y := m_X10_isDigit) (pc := 31) (x := (0 : Int32)) dX10_isDigit_31 (by decide +kernel) ?_
      obtain rfl := Option.some.inj hf
      exact V_zret (Y := m_X10_isDigit) z01_0 rfl dX10_isDigit_32
    · refine V_iconst (Y := m_X10_isDigit) (pc := 27) (x := (1 : Int32)) dX10_isDigit_27 (by decide +kernel) ?_
      refine V_goto (Y := m_X10_isDigit) (pc := 28) (tgt := 32) dX10_isDigit_28 (by decide +kernel) ?_
      obtain rfl := Option.some.inj hf
      exact V_zret (Y := m_X10_isDigit) z01_1 rfl dX10_isDigit_32
def f_X10_isDigit (x1 : Int32) (M : Mem) : Option (Int32 × Mem) := f_X10_isDigit_b0 x1 M
set_option maxRecDepth 20000 in
set_option maxHeartbeats 4000000 in
theorem ok_X10_isDigit {l : Launch} {g : Gam} {b : Nat} : ∀ (x1 : Int32) (M : Mem) (z : Int32 × Mem), f_X10_isDigit x1 M = some z → Cn l g (wM b) m_X10_isDigit [.ref (b + 0), .int x1] M (some (.int z.1)) z.2 := fun x1 M z  hf => Cn_of (by decide +kernel) (Nat.le_of_ble_eq_true rfl) (V_sub [0, 1] rfl (ok_X10_isDigit_b0 x1 M z  hf))

abbrev m_X10_goesOn : Mth := (yX10_goesOn, cX10_goesOn, 3, none, 3)
theorem yf_X10_goesOn : YF m_X10_goesOn 0 := ⟨tw_1337, tw_75, by decide +kernel, by decide +kernel⟩
def f_X10_goesOn_bc329_1   (M : Mem) : Option (Int32 × Mem) :=
  some (0, (mset M 0 15 ((M 0 15) + (1 : Int32))))
set_option maxRecDepth 20000 in
set_option maxHeartbeats 4000000 in
theorem ok_X10_goesOn_bc329_1 {l : Launch} {g : Gam} {b : Nat}    (M : Mem) (z : Int32 × Mem)  (hf : f_X10_goesOn_bc329_1  M = some z) : V l g (wM b) m_X10_goesOn 329 [(0, .ref (b + 0))] [] M none z.2 := by
  unfold f_X10_goesOn_bc329_1 at hf
  refine V_aload_n (Y := m_X10_goesOn) (pc := 329) 0 dX10_goesOn_329 rfl ?_
  refine V_dup (Y := m_X10_goesOn) (pc := 330) dX10_goesOn_330 rfl ?_
  refine V_gi (Y := m_X10_goesOn) (pc := 331) 15 kX10 sM_0 (by decide +kernel) rfl tw_1085 dX10_goesOn_331 ?_
  refine V_iconst (Y := m_X10_goesOn) (pc := 334) (x := (1 : Int32)) dX10_goesOn_334 (by decide +kernel) ?_
  refine V_iadd (Y := m_X10_goesOn) (pc := 335) dX10_goesOn_335 ?_
  refine V_pi (Y := m_X10_goesOn) (pc := 336) 15 kX10 sM_0 (by decide +kernel) rfl rfl rfl tw_1085 dX10_goesOn_336 ?_
  obtain rfl := Option.some.inj hf
  exact V_vret (Y := m_X10_goesOn) rfl dX10_goesOn_339
def f_X10_goesOn_b305  (s0 : Int32) (M : Mem) : Option (Int32 × Mem) :=
  some (0, (mset M 0 16 s0))
set_option maxRecDepth 20000 in
set_option maxHeartbeats 4000000 in
theorem ok_X10_goesOn_b305 {l : Launch} {g : Gam} {b : Nat}   (s0 : Int32) (M : Mem) (z : Int32 × Mem)  (hf : f_X10_goesOn_b305 s0 M = some z) : V l g (wM b) m_X10_goesOn 305 [] [.int s0, .ref (b + 0)] M none z.2 := by
  unfold f_X10_goesOn_b305 at hf
  refine V_pi (Y := m_X10_goesOn) (pc := 305) 16 kX10 sM_0 (by decide +kernel) rfl rfl rfl tw_1086 dX10_goesOn_305 ?_
  refine V_goto (Y := m_X10_goesOn) (pc := 308) (tgt := 339) dX10_goesOn_308 (by decide +kernel) ?_
  obtain rfl := Option.some.inj hf
  exact V_vret (Y := m_X10_goesOn) rfl dX10_goesOn_339
def f_X10_goesOn_b300   (M : Mem) : Option (Int32 × Mem) :=
  f_X10_goesOn_b305  (4 : Int32) M
set_option maxRecDepth 20000 in
set_option maxHeartbeats 4000000 in
theorem ok_X10_goesOn_b300 {l : Launch} {g : Gam} {b : Nat}    (M : Mem) (z : Int32 × Mem)  (hf : f_X10_goesOn_b300  M = some z) : V l g (wM b) m_X10_goesOn 300 [] [.ref (b + 0)] M none z.2 := by
  unfold f_X10_goesOn_b300 at hf
  refine V_iconst (Y := m_X10_goesOn) (pc := 300) (x := (4 : Int32)) dX10_goesOn_300 (by decide +kernel) ?_
  refine V_goto (Y := m_X10_goesOn) (pc := 301) (tgt := 305) dX10_goesOn_301 (by decide +kernel) ?_
  exact V_sub [] rfl (ok_X10_goesOn_b305  (4 : Int32) M z  hf)
def f_X10_goesOn_b282  (x1 : Int32) (M : Mem) : Option (Int32 × Mem) :=
  if x1 = 0 then
    if ((M 0 15) - (M 0 14)) ≤ (4 : Int32) then
      f_X10_goesOn_b305  (2 : Int32) M
    else
      f_X10_goesOn_b300   M
  else
    f_X10_goesOn_b300   M
set_option maxRecDepth 20000 in
set_option maxHeartbeats 4000000 in
theorem ok_X10_goesOn_b282 {l : Launch} {g : Gam} {b : Nat}   (x1 : Int32) (M : Mem) (z : Int32 × Mem)  (hf : f_X10_goesOn_b282 x1 M = some z) : V l g (wM b) m_X10_goesOn 282 [(0, .ref (b + 0)), (1, .int x1)] [] M none z.2 := by
  unfold f_X10_goesOn_b282 at hf
  refine V_aload_n (Y := m_X10_goesOn) (pc := 282) 0 dX10_goesOn_282 rfl ?_
  refine V_iload_n (Y := m_X10_goesOn) (pc := 283) 1 dX10_goesOn_283 rfl ?_
  refine V_if_ne (Y := m_X10_goesOn) (pc := 284) (tgt := 300) dX10_goesOn_284 (by decide +kernel) hf (fun hf => ?_) (fun hf => ?_)
  · exact V_sub [] rfl (ok_X10_goesOn_b300   M z  hf)
  · refine V_aload_n (Y := m_X10_goesOn) (pc := 287) 0 dX10_goesOn_287 rfl ?_
    refine V_gi (Y := m_X10_goesOn) (pc := 288) 15 kX10 sM_0 (by decide +kernel) rfl tw_1085 dX10_goesOn_288 ?_
    refine V_aload_n (Y := m_X10_goesOn) (pc := 291) 0 dX10_goesOn_291 rfl ?_
    refine V_gi (Y := m_X10_goesOn) (pc := 292) 14 kX10 sM_0 (by decide +kernel) rfl tw_1084 dX10_goesOn_292 ?_
    refine V_isub (Y := m_X10_goesOn) (pc := 295) dX10_goesOn_295 ?_
    refine V_iconst (Y := m_X10_goesOn) (pc := 296) (x := (4 : Int32)) dX10_goesOn_296 (by decide +kernel) ?_
    refine V_icmp_le (Y := m_X10_goesOn) (pc := 297) (tgt := 304) dX10_goesOn_297 (by decide +kernel) hf (fun hf => ?_) (fun hf => ?_)
    · refine V_iconst (Y := m_X10_goesOn) (pc := 304) (x := (2 : Int32)) dX10_goesOn_304 (by decide +kernel) ?_
      exact V_sub [] rfl (ok_X10_goesOn_b305  (2 : Int32) M z  hf)
    · exact V_sub [] rfl (ok_X10_goesOn_b300   M z  hf)
def f_X10_goesOn_b266 (k214 : Int32 → Mem → Option (Int32 × Mem)) (x1 : Int32) (s0 : Int32) (M : Mem) : Option (Int32 × Mem) :=
  k214 x1 (mset (mset M 0 17 s0) 0 15 (((mset M 0 17 s0) 0 15) + (1 : Int32)))
set_option maxRecDepth 20000 in
set_option maxHeartbeats 4000000 in
theorem ok_X10_goesOn_b266 {l : Launch} {g : Gam} {b : Nat} (k214 : Int32 → Mem → Option (Int32 × Mem)) (hk214 : ∀ (x1 : Int32) (M : Mem) (z : Int32 × Mem), k214 x1 M = some z → V l g (wM b) m_X10_goesOn 214 [(0, .ref (b + 0)), (1, .int x1)] [] M none z.2) (x1 : Int32) (s0 : Int32) (M : Mem) (z : Int32 × Mem)  (hf : f_X10_goesOn_b266 k214 x1 s0 M = some z) : V l g (wM b) m_X10_goesOn 266 [(0, .ref (b + 0)), (1, .int x1)] [.int s0, .ref (b + 0)] M none z.2 := by
  unfold f_X10_goesOn_b266 at hf
  refine V_pi (Y := m_X10_goesOn) (pc := 266) 17 kX10 sM_0 (by decide +kernel) rfl rfl rfl tw_1087 dX10_goesOn_266 ?_
  refine V_aload_n (Y := m_X10_goesOn) (pc := 269) 0 dX10_goesOn_269 rfl ?_
  refine V_dup (Y := m_X10_goesOn) (pc := 270) dX10_goesOn_270 rfl ?_
  refine V_gi (Y := m_X10_goesOn) (pc := 271) 15 kX10 sM_0 (by decide +kernel) rfl tw_1085 dX10_goesOn_271 ?_
  refine V_iconst (Y := m_X10_goesOn) (pc := 274) (x := (1 : Int32)) dX10_goesOn_274 (by decide +kernel) ?_
  refine V_iadd (Y := m_X10_goesOn) (pc := 275) dX10_goesOn_275 ?_
  refine V_pi (Y := m_X10_goesOn) (pc := 276) 15 kX10 sM_0 (by decide +kernel) rfl rfl rfl tw_1085 dX10_goesOn_276 ?_
  refine V_goto (Y := m_X10_goesOn) (pc := 279) (tgt := 214) dX10_goesOn_279 (by decide +kernel) ?_
  exact V_sub [0, 1] rfl (hk214 x1 (mset (mset M 0 17 s0) 0 15 (((mset M 0 17 s0) 0 15) + (1 : Int32))) z  hf)
def f_X10_goesOn_b214  : Nat → Int32 → Mem → Option (Int32 × Mem)
  | 0, _, _ => none
  | n + 1, x1, M =>
    (f_X10_isDigit (M 0 15) M).bind fun q1 =>
    if q1.1 = 0 then
      f_X10_goesOn_b282  x1 q1.2
    else
      if (4 : Int32) ≤ ((q1.2 0 15) - (q1.2 0 14)) then
        f_X10_goesOn_b266 (f_X10_goesOn_b214  n) x1 (q1.2 0 17) q1.2
      else
        if ixb (q1.2 0 15) 96 = true then
        f_X10_goesOn_b266 (f_X10_goesOn_b214  n) x1 ((((10 : Int32) * (q1.2 0 17)) + (q1.2 12 (ix (q1.2 0 15)))) - (48 : Int32)) q1.2
        else none
set_option maxRecDepth 20000 in
set_option maxHeartbeats 4000000 in
theorem ok_X10_goesOn_b214 {l : Launch} {g : Gam} {b : Nat}   : ∀ (n : Nat) (x1 : Int32) (M : Mem) (z : Int32 × Mem), f_X10_goesOn_b214  n x1 M = some z → V l g (wM b) m_X10_goesOn 214 [(0, .ref (b + 0)), (1, .int x1)] [] M none z.2 := by
  intro n
  induction n with
  | zero =>
    intro x1 M z  hf
    cases hf
  | succ n ih =>
    intro x1 M z  hf
    rw [f_X10_goesOn_b214] at hf
    refine V_aload_n (Y := m_X10_goesOn) (pc := 214) 0 dX10_goesOn_214 rfl ?_
    refine V_aload_n (Y := m_X10_goesOn) (pc := 215) 0 dX10_goesOn_215 rfl ?_
    refine V_gi (Y := m_X10_goesOn) (pc := 216) 15 kX10 sM_0 (by decide +kernel) rfl tw_1085 dX10_goesOn_216 ?_
    obtain ⟨q1, hq1, hf⟩ := g_bind hf
    refine V_cVi (Y := m_X10_goesOn) (pc := 219) (As := [.int (M 0 15)]) yf_X10_isDigit kX10 sM_0 (by decide +kernel) (ok_X10_isDigit (M 0 15) M _  hq1) tw_1346 tw_34 tw_1344 rfl rfl (Nat.le_of_ble_eq_true rfl) dX10_goesOn_219 ?_
    refine V_if_eq (Y := m_X10_goesOn) (pc := 222) (tgt := 282) dX10_goesOn_222 (by decide +kernel) hf (fun hf => ?_) (fun hf => ?_)
    · exact V_sub [0, 1] rfl (ok_X10_goesOn_b282  x1 q1.2 z  hf)
    · refine V_aload_n (Y := m_X10_goesOn) (pc := 225) 0 dX10_goesOn_225 rfl ?_
      refine V_aload_n (Y := m_X10_goesOn) (pc := 226) 0 dX10_goesOn_226 rfl ?_
      refine V_gi (Y := m_X10_goesOn) (pc := 227) 15 kX10 sM_0 (by decide +kernel) rfl tw_1085 dX10_goesOn_227 ?_
      refine V_aload_n (Y := m_X10_goesOn) (pc := 230) 0 dX10_goesOn_230 rfl ?_
      refine V_gi (Y := m_X10_goesOn) (pc := 231) 14 kX10 sM_0 (by decide +kernel) rfl tw_1084 dX10_goesOn_231 ?_
      refine V_isub (Y := m_X10_goesOn) (pc := 234) dX10_goesOn_234 ?_
      refine V_iconst (Y := m_X10_goesOn) (pc := 235) (x := (4 : Int32)) dX10_goesOn_235 (by decide +kernel) ?_
      refine V_icmp_ge (Y := m_X10_goesOn) (pc := 236) (tgt := 262) dX10_goesOn_236 (by decide +kernel) hf (fun hf => ?_) (fun hf => ?_)
      · refine V_aload_n (Y := m_X10_goesOn) (pc := 262) 0 dX10_goesOn_262 rfl ?_
        refine V_gi (Y := m_X10_goesOn) (pc := 263) 17 kX10 sM_0 (by decide +kernel) rfl tw_1087 dX10_goesOn_263 ?_
        exact V_sub [0, 1] rfl (ok_X10_goesOn_b266 (f_X10_goesOn_b214  n) ih x1 (q1.2 0 17) q1.2 z  hf)
      · refine V_bipush (Y := m_X10_goesOn) (pc := 239) (x := (10 : Int32)) dX10_goesOn_239 (by decide +kernel) ?_
        refine V_aload_n (Y := m_X10_goesOn) (pc := 241) 0 dX10_goesOn_241 rfl ?_
        refine V_gi (Y := m_X10_goesOn) (pc := 242) 17 kX10 sM_0 (by decide +kernel) rfl tw_1087 dX10_goesOn_242 ?_
        refine V_imul (Y := m_X10_goesOn) (pc := 245) dX10_goesOn_245 ?_
        refine V_aload_n (Y := m_X10_goesOn) (pc := 246) 0 dX10_goesOn_246 rfl ?_
        refine V_grL (Y := m_X10_goesOn) (pc := 247) (x := 12) 12 kX10 sM_0 (by decide +kernel) rfl rfl tw_1082 dX10_goesOn_247 ?_
        refine V_aload_n (Y := m_X10_goesOn) (pc := 250) 0 dX10_goesOn_250 rfl ?_
        refine V_gi (Y := m_X10_goesOn) (pc := 251) 15 kX10 sM_0 (by decide +kernel) rfl tw_1085 dX10_goesOn_251 ?_
        obtain ⟨hi2, hf⟩ := g_if hf
        refine V_iald (Y := m_X10_goesOn) (pc := 254) sM_12 hi2 dX10_goesOn_254 ?_
        refine V_iadd (Y := m_X10_goesOn) (pc := 255) dX10_goesOn_255 ?_
        refine V_bipush (Y := m_X10_goesOn) (pc := 256) (x := (48 : Int32)) dX10_goesOn_256 (by decide +kernel) ?_
        refine V_isub (Y := m_X10_goesOn) (pc := 258) dX10_goesOn_258 ?_
        refine V_goto (Y := m_X10_goesOn) (pc := 259) (tgt := 266) dX10_goesOn_259 (by decide +kernel) ?_
        exact V_sub [0, 1] rfl (ok_X10_goesOn_b266 (f_X10_goesOn_b214  n) ih x1 ((((10 : Int32) * (q1.2 0 17)) + (q1.2 12 (ix (q1.2 0 15)))) - (48 : Int32)) q1.2 z  hf)
def f_X10_goesOn_b192  (s0 : Int32) (M : Mem) : Option (Int32 × Mem) :=
  some (0, (mset M 0 18 s0))
set_option maxRecDepth 20000 in
set_option maxHeartbeats 4000000 in
theorem ok_X10_goesOn_b192 {l : Launch} {g : Gam} {b : Nat}   (s0 : Int32) (M : Mem) (z : Int32 × Mem)  (hf : f_X10_goesOn_b192 s0 M = some z) : V l g (wM b) m_X10_goesOn 192 [] [.int s0, .ref (b + 0)] M none z.2 := by
  unfold f_X10_goesOn_b192 at hf
  refine V_pi (Y := m_X10_goesOn) (pc := 192) 18 kX10 sM_0 (by decide +kernel) rfl rfl rfl tw_1088 dX10_goesOn_192 ?_
  refine V_goto (Y := m_X10_goesOn) (pc := 195) (tgt := 339) dX10_goesOn_195 (by decide +kernel) ?_
  obtain rfl := Option.some.inj hf
  exact V_vret (Y := m_X10_goesOn) rfl dX10_goesOn_339
def f_X10_goesOn_b162  (s0 : Int32) (M : Mem) : Option (Int32 × Mem) :=
  if (((mset M 0 16 s0) 0 15) - ((mset M 0 16 s0) 0 14)) = (1 : Int32) then
    if ixb ((mset M 0 16 s0) 0 14) 96 = true then
    f_X10_goesOn_b192  ((mset M 0 16 s0) 12 (ix ((mset M 0 16 s0) 0 14))) (mset M 0 16 s0)
    else none
  else
    f_X10_goesOn_b192  (0 : Int32) (mset M 0 16 s0)
set_option maxRecDepth 20000 in
set_option maxHeartbeats 4000000 in
theorem ok_X10_goesOn_b162 {l : Launch} {g : Gam} {b : Nat}   (s0 : Int32) (M : Mem) (z : Int32 × Mem)  (hf : f_X10_goesOn_b162 s0 M = some z) : V l g (wM b) m_X10_goesOn 162 [(0, .ref (b + 0))] [.int s0, .ref (b + 0)] M none z.2 := by
  unfold f_X10_goesOn_b162 at hf
  refine V_pi (Y := m_X10_goesOn) (pc := 162) 16 kX10 sM_0 (by decide +kernel) rfl rfl rfl tw_1086 dX10_goesOn_162 ?_
  refine V_aload_n (Y := m_X10_goesOn) (pc := 165) 0 dX10_goesOn_165 rfl ?_
  refine V_aload_n (Y := m_X10_goesOn) (pc := 166) 0 dX10_goesOn_166 rfl ?_
  refine V_gi (Y := m_X10_goesOn) (pc := 167) 15 kX10 sM_0 (by decide +kernel) rfl tw_1085 dX10_goesOn_167 ?_
  refine V_aload_n (Y := m_X10_goesOn) (pc := 170) 0 dX10_goesOn_170 rfl ?_
  refine V_gi (Y := m_X10_goesOn) (pc := 171) 14 kX10 sM_0 (by decide +kernel) rfl tw_1084 dX10_goesOn_171 ?_
  refine V_isub (Y := m_X10_goesOn) (pc := 174) dX10_goesOn_174 ?_
  refine V_iconst (Y := m_X10_goesOn) (pc := 175) (x := (1 : Int32)) dX10_goesOn_175 (by decide +kernel) ?_
  refine V_icmp_ne (Y := m_X10_goesOn) (pc := 176) (tgt := 191) dX10_goesOn_176 (by decide +kernel) hf (fun hf => ?_) (fun hf => ?_)
  · refine V_iconst (Y := m_X10_goesOn) (pc := 191) (x := (0 : Int32)) dX10_goesOn_191 (by decide +kernel) ?_
    exact V_sub [] rfl (ok_X10_goesOn_b192  (0 : Int32) (mset M 0 16 s0) z  hf)
  · refine V_aload_n (Y := m_X10_goesOn) (pc := 179) 0 dX10_goesOn_179 rfl ?_
    refine V_grL (Y := m_X10_goesOn) (pc := 180) (x := 12) 12 kX10 sM_0 (by decide +kernel) rfl rfl tw_1082 dX10_goesOn_180 ?_
    refine V_aload_n (Y := m_X10_goesOn) (pc := 183) 0 dX10_goesOn_183 rfl ?_
    refine V_gi (Y := m_X10_goesOn) (pc := 184) 14 kX10 sM_0 (by decide +kernel) rfl tw_1084 dX10_goesOn_184 ?_
    obtain ⟨hi1, hf⟩ := g_if hf
    refine V_iald (Y := m_X10_goesOn) (pc := 187) sM_12 hi1 dX10_goesOn_187 ?_
    refine V_goto (Y := m_X10_goesOn) (pc := 188) (tgt := 192) dX10_goesOn_188 (by decide +kernel) ?_
    exact V_sub [] rfl (ok_X10_goesOn_b192  ((mset M 0 16 s0) 12 (ix ((mset M 0 16 s0) 0 14))) (mset M 0 16 s0) z  hf)
def f_X10_goesOn_b152  (x1 : Int32) (M : Mem) : Option (Int32 × Mem) :=
  if x1 = 0 then
    f_X10_goesOn_b162  (1 : Int32) M
  else
    f_X10_goesOn_b162  (4 : Int32) M
set_option maxRecDepth 20000 in
set_option maxHeartbeats 4000000 in
theorem ok_X10_goesOn_b152 {l : Launch} {g : Gam} {b : Nat}   (x1 : Int32) (M : Mem) (z : Int32 × Mem)  (hf : f_X10_goesOn_b152 x1 M = some z) : V l g (wM b) m_X10_goesOn 152 [(0, .ref (b + 0)), (1, .int x1)] [] M none z.2 := by
  unfold f_X10_goesOn_b152 at hf
  refine V_aload_n (Y := m_X10_goesOn) (pc := 152) 0 dX10_goesOn_152 rfl ?_
  refine V_iload_n (Y := m_X10_goesOn) (pc := 153) 1 dX10_goesOn_153 rfl ?_
  refine V_if_eq (Y := m_X10_goesOn) (pc := 154) (tgt := 161) dX10_goesOn_154 (by decide +kernel) hf (fun hf => ?_) (fun hf => ?_)
  · refine V_iconst (Y := m_X10_goesOn) (pc := 161) (x := (1 : Int32)) dX10_goesOn_161 (by decide +kernel) ?_
    exact V_sub [0] rfl (ok_X10_goesOn_b162  (1 : Int32) M z  hf)
  · refine V_iconst (Y := m_X10_goesOn) (pc := 157) (x := (4 : Int32)) dX10_goesOn_157 (by decide +kernel) ?_
    refine V_goto (Y := m_X10_goesOn) (pc := 158) (tgt := 162) dX10_goesOn_158 (by decide +kernel) ?_
    exact V_sub [0] rfl (ok_X10_goesOn_b162  (4 : Int32) M z  hf)
def f_X10_goesOn_b128  : Nat → Int32 → Mem → Option (Int32 × Mem)
  | 0, _, _ => none
  | n + 1, x1, M =>
    (f_X10_isLetter (M 0 15) M).bind fun q1 =>
    if q1.1 = 0 then
      f_X10_goesOn_b152  x1 q1.2
    else
      f_X10_goesOn_b128  n x1 (mset q1.2 0 15 ((q1.2 0 15) + (1 : Int32)))
set_option maxRecDepth 20000 in
set_option maxHeartbeats 4000000 in
theorem ok_X10_goesOn_b128 {l : Launch} {g : Gam} {b : Nat}   : ∀ (n : Nat) (x1 : Int32) (M : Mem) (z : Int32 × Mem), f_X10_goesOn_b128  n x1 M = some z → V l g (wM b) m_X10_goesOn 128 [(0, .ref (b + 0)), (1, .int x1)] [] M none z.2 := by
  intro n
  induction n with
  | zero =>
    intro x1 M z  hf
    cases hf
  | succ n ih =>
    intro x1 M z  hf
    rw [f_X10_goesOn_b128] at hf
    refine V_aload_n (Y := m_X10_goesOn) (pc := 128) 0 dX10_goesOn_128 rfl ?_
    refine V_aload_n (Y := m_X10_goesOn) (pc := 129) 0 dX10_goesOn_129 rfl ?_
    refine V_gi (Y := m_X10_goesOn) (pc := 130) 15 kX10 sM_0 (by decide +kernel) rfl tw_1085 dX10_goesOn_130 ?_
    obtain ⟨q1, hq1, hf⟩ := g_bind hf
    refine V_cVi (Y := m_X10_goesOn) (pc := 133) (As := [.int (M 0 15)]) yf_X10_isLetter kX10 sM_0 (by decide +kernel) (ok_X10_isLetter (M 0 15) M _  hq1) tw_1340 tw_33 tw_1338 rfl rfl (Nat.le_of_ble_eq_true rfl) dX10_goesOn_133 ?_
    refine V_if_eq (Y := m_X10_goesOn) (pc := 136) (tgt := 152) dX10_goesOn_136 (by decide +kernel) hf (fun hf => ?_) (fun hf => ?_)
    · exact V_sub [0, 1] rfl (ok_X10_goesOn_b152  x1 q1.2 z  hf)
    · refine V_aload_n (Y := m_X10_goesOn) (pc := 139) 0 dX10_goesOn_139 rfl ?_
      refine V_dup (Y := m_X10_goesOn) (pc := 140) dX10_goesOn_140 rfl ?_
      refine V_gi (Y := m_X10_goesOn) (pc := 141) 15 kX10 sM_0 (by decide +kernel) rfl tw_1085 dX10_goesOn_141 ?_
      refine V_iconst (Y := m_X10_goesOn) (pc := 144) (x := (1 : Int32)) dX10_goesOn_144 (by decide +kernel) ?_
      refine V_iadd (Y := m_X10_goesOn) (pc := 145) dX10_goesOn_145 ?_
      refine V_pi (Y := m_X10_goesOn) (pc := 146) 15 kX10 sM_0 (by decide +kernel) rfl rfl rfl tw_1085 dX10_goesOn_146 ?_
      refine V_goto (Y := m_X10_goesOn) (pc := 149) (tgt := 128) dX10_goesOn_149 (by decide +kernel) ?_
      exact V_sub [0, 1] rfl (ih x1 (mset q1.2 0 15 ((q1.2 0 15) + (1 : Int32))) z  hf)
def f_X10_goesOn_b89  (s0 : Int32) (M : Mem) : Option (Int32 × Mem) :=
  if ((mset M 0 14 (M 0 15)) 0 14) = ((mset M 0 14 (M 0 15)) 0 13) then
    some (0, (mset (mset M 0 14 (M 0 15)) 0 16 (0 : Int32)))
  else
    (f_X10_isLetter ((mset M 0 14 (M 0 15)) 0 14) (mset M 0 14 (M 0 15))).bind fun q1 =>
    if q1.1 = 0 then
      (f_X10_isDigit (q1.2 0 14) q1.2).bind fun q2 =>
      if q2.1 = 0 then
        if ixb ((mset q2.2 0 16 (3 : Int32)) 0 14) 96 = true then
        f_X10_goesOn_bc329_1   (mset (mset q2.2 0 16 (3 : Int32)) 0 18 ((mset q2.2 0 16 (3 : Int32)) 12 (ix ((mset q2.2 0 16 (3 : Int32)) 0 14))))
        else none
      else
        f_X10_goesOn_b214  FU s0 (mset q2.2 0 17 (0 : Int32))
    else
      f_X10_goesOn_b128  FU s0 q1.2
set_option maxRecDepth 20000 in
set_option maxHeartbeats 4000000 in
theorem ok_X10_goesOn_b89 {l : Launch} {g : Gam} {b : Nat}   (s0 : Int32) (M : Mem) (z : Int32 × Mem)  (hf : f_X10_goesOn_b89 s0 M = some z) : V l g (wM b) m_X10_goesOn 89 [(0, .ref (b + 0))] [.int s0] M none z.2 := by
  unfold f_X10_goesOn_b89 at hf
  refine V_istore_n (Y := m_X10_goesOn) (pc := 89) [(1, .int s0), (0, .ref (b + 0))] dX10_goesOn_89 (by decide +kernel) rfl ?_
  refine V_aload_n (Y := m_X10_goesOn) (pc := 90) 1 dX10_goesOn_90 rfl ?_
  refine V_aload_n (Y := m_X10_goesOn) (pc := 91) 1 dX10_goesOn_91 rfl ?_
  refine V_gi (Y := m_X10_goesOn) (pc := 92) 15 kX10 sM_0 (by decide +kernel) rfl tw_1085 dX10_goesOn_92 ?_
  refine V_pi (Y := m_X10_goesOn) (pc := 95) 14 kX10 sM_0 (by decide +kernel) rfl rfl rfl tw_1084 dX10_goesOn_95 ?_
  refine V_aload_n (Y := m_X10_goesOn) (pc := 98) 1 dX10_goesOn_98 rfl ?_
  refine V_gi (Y := m_X10_goesOn) (pc := 99) 14 kX10 sM_0 (by decide +kernel) rfl tw_1084 dX10_goesOn_99 ?_
  refine V_aload_n (Y := m_X10_goesOn) (pc := 102) 1 dX10_goesOn_102 rfl ?_
  refine V_gi (Y := m_X10_goesOn) (pc := 103) 13 kX10 sM_0 (by decide +kernel) rfl tw_1083 dX10_goesOn_103 ?_
  refine V_icmp_ne (Y := m_X10_goesOn) (pc := 106) (tgt := 117) dX10_goesOn_106 (by decide +kernel) hf (fun hf => ?_) (fun hf => ?_)
  · refine V_aload_n (Y := m_X10_goesOn) (pc := 117) 1 dX10_goesOn_117 rfl ?_
    refine V_aload_n (Y := m_X10_goesOn) (pc := 118) 1 dX10_goesOn_118 rfl ?_
    refine V_gi (Y := m_X10_goesOn) (pc := 119) 14 kX10 sM_0 (by decide +kernel) rfl tw_1084 dX10_goesOn_119 ?_
    obtain ⟨q1, hq1, hf⟩ := g_bind hf
    refine V_cVi (Y := m_X10_goesOn) (pc := 122) (As := [.int ((mset M 0 14 (M 0 15)) 0 14)]) yf_X10_isLetter kX10 sM_0 (by decide +kernel) (ok_X10_isLetter ((mset M 0 14 (M 0 15)) 0 14) (mset M 0 14 (M 0 15)) _  hq1) tw_1340 tw_33 tw_1338 rfl rfl (Nat.le_of_ble_eq_true rfl) dX10_goesOn_122 ?_
    refine V_if_eq (Y := m_X10_goesOn) (pc := 125) (tgt := 198) dX10_goesOn_125 (by decide +kernel) hf (fun hf => ?_) (fun hf => ?_)
    · refine V_aload_n (Y := m_X10_goesOn) (pc := 198) 1 dX10_goesOn_198 rfl ?_
      refine V_aload_n (Y := m_X10_goesOn) (pc := 199) 1 dX10_goesOn_199 rfl ?_
      refine V_gi (Y := m_X10_goesOn) (pc := 200) 14 kX10 sM_0 (by decide +kernel) rfl tw_1084 dX10_goesOn_200 ?_
      obtain ⟨q2, hq2, hf⟩ := g_bind hf
      refine V_cVi (Y := m_X10_goesOn) (pc := 203) (As := [.int (q1.2 0 14)]) yf_X10_isDigit kX10 sM_0 (by decide +kernel) (ok_X10_isDigit (q1.2 0 14) q1.2 _  hq2) tw_1346 tw_34 tw_1344 rfl rfl (Nat.le_of_ble_eq_true rfl) dX10_goesOn_203 ?_
      refine V_if_eq (Y := m_X10_goesOn) (pc := 206) (tgt := 311) dX10_goesOn_206 (by decide +kernel) hf (fun hf => ?_) (fun hf => ?_)
      · refine V_aload_n (Y := m_X10_goesOn) (pc := 311) 1 dX10_goesOn_311 rfl ?_
        refine V_iconst (Y := m_X10_goesOn) (pc := 312) (x := (3 : Int32)) dX10_goesOn_312 (by decide +kernel) ?_
        refine V_pi (Y := m_X10_goesOn) (pc := 313) 16 kX10 sM_0 (by decide +kernel) rfl rfl rfl tw_1086 dX10_goesOn_313 ?_
        refine V_aload_n (Y := m_X10_goesOn) (pc := 316) 1 dX10_goesOn_316 rfl ?_
        refine V_aload_n (Y := m_X10_goesOn) (pc := 317) 1 dX10_goesOn_317 rfl ?_
        refine V_grL (Y := m_X10_goesOn) (pc := 318) (x := 12) 12 kX10 sM_0 (by decide +kernel) rfl rfl tw_1082 dX10_goesOn_318 ?_
        refine V_aload_n (Y := m_X10_goesOn) (pc := 321) 1 dX10_goesOn_321 rfl ?_
        refine V_gi (Y := m_X10_goesOn) (pc := 322) 14 kX10 sM_0 (by decide +kernel) rfl tw_1084 dX10_goesOn_322 ?_
        obtain ⟨hi3, hf⟩ := g_if hf
        refine V_iald (Y := m_X10_goesOn) (pc := 325) sM_12 hi3 dX10_goesOn_325 ?_
        refine V_pi (Y := m_X10_goesOn) (pc := 326) 18 kX10 sM_0 (by decide +kernel) rfl rfl rfl tw_1088 dX10_goesOn_326 ?_
        exact V_sub [1] rfl (ok_X10_goesOn_bc329_1   (mset (mset q2.2 0 16 (3 : Int32)) 0 18 ((mset q2.2 0 16 (3 : Int32)) 12 (ix ((mset q2.2 0 16 (3 : Int32)) 0 14)))) z  hf)
      · refine V_aload_n (Y := m_X10_goesOn) (pc := 209) 1 dX10_goesOn_209 rfl ?_
        refine V_iconst (Y := m_X10_goesOn) (pc := 210) (x := (0 : Int32)) dX10_goesOn_210 (by decide +kernel) ?_
        refine V_pi (Y := m_X10_goesOn) (pc := 211) 17 kX10 sM_0 (by decide +kernel) rfl rfl rfl tw_1087 dX10_goesOn_211 ?_
        exact V_sub [1, 0] rfl (ok_X10_goesOn_b214  FU s0 (mset q2.2 0 17 (0 : Int32)) z  hf)
    · exact V_sub [1, 0] rfl (ok_X10_goesOn_b128  FU s0 q1.2 z  hf)
  · refine V_aload_n (Y := m_X10_goesOn) (pc := 109) 1 dX10_goesOn_109 rfl ?_
    refine V_iconst (Y := m_X10_goesOn) (pc := 110) (x := (0 : Int32)) dX10_goesOn_110 (by decide +kernel) ?_
    refine V_pi (Y := m_X10_goesOn) (pc := 111) 16 kX10 sM_0 (by decide +kernel) rfl rfl rfl tw_1086 dX10_goesOn_111 ?_
    refine V_goto (Y := m_X10_goesOn) (pc := 114) (tgt := 339) dX10_goesOn_114 (by decide +kernel) ?_
    obtain rfl := Option.some.inj hf
    exact V_vret (Y := m_X10_goesOn) rfl dX10_goesOn_339
def f_X10_goesOn_b88   (M : Mem) : Option (Int32 × Mem) :=
  f_X10_goesOn_b89  (0 : Int32) M
set_option maxRecDepth 20000 in
set_option maxHeartbeats 4000000 in
theorem ok_X10_goesOn_b88 {l : Launch} {g : Gam} {b : Nat}    (M : Mem) (z : Int32 × Mem)  (hf : f_X10_goesOn_b88  M = some z) : V l g (wM b) m_X10_goesOn 88 [(0, .ref (b + 0))] [] M none z.2 := by
  unfold f_X10_goesOn_b88 at hf
  refine V_iconst (Y := m_X10_goesOn) (pc := 88) (x := (0 : Int32)) dX10_goesOn_88 (by decide +kernel) ?_
  exact V_sub [0] rfl (ok_X10_goesOn_b89  (0 : Int32) M z  hf)
def f_X10_goesOn_b72  (x1 : Int32) (x2 : Int32) (M : Mem) : Option (Int32 × Mem) :=
  if x1 = 0 then
    f_X10_goesOn_b88   M
  else
    if x2 = (M 0 15) then
      f_X10_goesOn_b89  (1 : Int32) M
    else
      f_X10_goesOn_b88   M
set_option maxRecDepth 20000 in
set_option maxHeartbeats 4000000 in
theorem ok_X10_goesOn_b72 {l : Launch} {g : Gam} {b : Nat}   (x1 : Int32) (x2 : Int32) (M : Mem) (z : Int32 × Mem)  (hf : f_X10_goesOn_b72 x1 x2 M = some z) : V l g (wM b) m_X10_goesOn 72 [(0, .ref (b + 0)), (1, .int x1), (2, .int x2)] [] M none z.2 := by
  unfold f_X10_goesOn_b72 at hf
  refine V_iload_n (Y := m_X10_goesOn) (pc := 72) 1 dX10_goesOn_72 rfl ?_
  refine V_if_eq (Y := m_X10_goesOn) (pc := 73) (tgt := 88) dX10_goesOn_73 (by decide +kernel) hf (fun hf => ?_) (fun hf => ?_)
  · exact V_sub [0] rfl (ok_X10_goesOn_b88   M z  hf)
  · refine V_iload_n (Y := m_X10_goesOn) (pc := 76) 2 dX10_goesOn_76 rfl ?_
    refine V_aload_n (Y := m_X10_goesOn) (pc := 77) 0 dX10_goesOn_77 rfl ?_
    refine V_gi (Y := m_X10_goesOn) (pc := 78) 15 kX10 sM_0 (by decide +kernel) rfl tw_1085 dX10_goesOn_78 ?_
    refine V_icmp_ne (Y := m_X10_goesOn) (pc := 81) (tgt := 88) dX10_goesOn_81 (by decide +kernel) hf (fun hf => ?_) (fun hf => ?_)
    · exact V_sub [0] rfl (ok_X10_goesOn_b88   M z  hf)
    · refine V_iconst (Y := m_X10_goesOn) (pc := 84) (x := (1 : Int32)) dX10_goesOn_84 (by decide +kernel) ?_
      refine V_goto (Y := m_X10_goesOn) (pc := 85) (tgt := 89) dX10_goesOn_85 (by decide +kernel) ?_
      exact V_sub [0] rfl (ok_X10_goesOn_b89  (1 : Int32) M z  hf)
def f_X10_goesOn_b34  : Nat → Int32 → Int32 → Mem → Option (Int32 × Mem)
  | 0, _, _, _ => none
  | n + 1, x1, x2, M =>
    if (M 0 13) ≤ (M 0 15) then
      f_X10_goesOn_b72  x1 x2 M
    else
      if ixb (M 0 15) 96 = true then
      if (M 12 (ix (M 0 15))) = (32 : Int32) then
        f_X10_goesOn_b34  n x1 x2 (mset M 0 15 ((M 0 15) + (1 : Int32)))
      else
        f_X10_goesOn_b72  x1 x2 M
      else none
set_option maxRecDepth 20000 in
set_option maxHeartbeats 4000000 in
theorem ok_X10_goesOn_b34 {l : Launch} {g : Gam} {b : Nat}   : ∀ (n : Nat) (x1 : Int32) (x2 : Int32) (M : Mem) (z : Int32 × Mem), f_X10_goesOn_b34  n x1 x2 M = some z → V l g (wM b) m_X10_goesOn 34 [(0, .ref (b + 0)), (1, .int x1), (2, .int x2)] [] M none z.2 := by
  intro n
  induction n with
  | zero =>
    intro x1 x2 M z  hf
    cases hf
  | succ n ih =>
    intro x1 x2 M z  hf
    rw [f_X10_goesOn_b34] at hf
    refine V_aload_n (Y := m_X10_goesOn) (pc := 34) 0 dX10_goesOn_34 rfl ?_
    refine V_gi (Y := m_X10_goesOn) (pc := 35) 15 kX10 sM_0 (by decide +kernel) rfl tw_1085 dX10_goesOn_35 ?_
    refine V_aload_n (Y := m_X10_goesOn) (pc := 38) 0 dX10_goesOn_38 rfl ?_
    refine V_gi (Y := m_X10_goesOn) (pc := 39) 13 kX10 sM_0 (by decide +kernel) rfl tw_1083 dX10_goesOn_39 ?_
    refine V_icmp_ge (Y := m_X10_goesOn) (pc := 42) (tgt := 72) dX10_goesOn_42 (by decide +kernel) hf (fun hf => ?_) (fun hf => ?_)
    · exact V_sub [0, 1, 2] rfl (ok_X10_goesOn_b72  x1 x2 M z  hf)
    · refine V_aload_n (Y := m_X10_goesOn) (pc := 45) 0 dX10_goesOn_45 rfl ?_
      refine V_grL (Y := m_X10_goesOn) (pc := 46) (x := 12) 12 kX10 sM_0 (by decide +kernel) rfl rfl tw_1082 dX10_goesOn_46 ?_
      refine V_aload_n (Y := m_X10_goesOn) (pc := 49) 0 dX10_goesOn_49 rfl ?_
      refine V_gi (Y := m_X10_goesOn) (pc := 50) 15 kX10 sM_0 (by decide +kernel) rfl tw_1085 dX10_goesOn_50 ?_
      obtain ⟨hi1, hf⟩ := g_if hf
      refine V_iald (Y := m_X10_goesOn) (pc := 53) sM_12 hi1 dX10_goesOn_53 ?_
      refine V_bipush (Y := m_X10_goesOn) (pc := 54) (x := (32 : Int32)) dX10_goesOn_54 (by decide +kernel) ?_
      refine V_icmp_ne (Y := m_X10_goesOn) (pc := 56) (tgt := 72) dX10_goesOn_56 (by decide +kernel) hf (fun hf => ?_) (fun hf => ?_)
      · exact V_sub [0, 1, 2] rfl (ok_X10_goesOn_b72  x1 x2 M z  hf)
      · refine V_aload_n (Y := m_X10_goesOn) (pc := 59) 0 dX10_goesOn_59 rfl ?_
        refine V_dup (Y := m_X10_goesOn) (pc := 60) dX10_goesOn_60 rfl ?_
        refine V_gi (Y := m_X10_goesOn) (pc := 61) 15 kX10 sM_0 (by decide +kernel) rfl tw_1085 dX10_goesOn_61 ?_
        refine V_iconst (Y := m_X10_goesOn) (pc := 64) (x := (1 : Int32)) dX10_goesOn_64 (by decide +kernel) ?_
        refine V_iadd (Y := m_X10_goesOn) (pc := 65) dX10_goesOn_65 ?_
        refine V_pi (Y := m_X10_goesOn) (pc := 66) 15 kX10 sM_0 (by decide +kernel) rfl rfl rfl tw_1085 dX10_goesOn_66 ?_
        refine V_goto (Y := m_X10_goesOn) (pc := 69) (tgt := 34) dX10_goesOn_69 (by decide +kernel) ?_
        exact V_sub [0, 1, 2] rfl (ih x1 x2 (mset M 0 15 ((M 0 15) + (1 : Int32))) z  hf)
def f_X10_goesOn_b28  (s0 : Int32) (M : Mem) : Option (Int32 × Mem) :=
  f_X10_goesOn_b34  FU s0 (M 0 15) M
set_option maxRecDepth 20000 in
set_option maxHeartbeats 4000000 in
theorem ok_X10_goesOn_b28 {l : Launch} {g : Gam} {b : Nat}   (s0 : Int32) (M : Mem) (z : Int32 × Mem)  (hf : f_X10_goesOn_b28 s0 M = some z) : V l g (wM b) m_X10_goesOn 28 [(0, .ref (b + 0))] [.int s0] M none z.2 := by
  unfold f_X10_goesOn_b28 at hf
  refine V_istore_n (Y := m_X10_goesOn) (pc := 28) [(1, .int s0), (0, .ref (b + 0))] dX10_goesOn_28 (by decide +kernel) rfl ?_
  refine V_aload_n (Y := m_X10_goesOn) (pc := 29) 1 dX10_goesOn_29 rfl ?_
  refine V_gi (Y := m_X10_goesOn) (pc := 30) 15 kX10 sM_0 (by decide +kernel) rfl tw_1085 dX10_goesOn_30 ?_
  refine V_istore_n (Y := m_X10_goesOn) (pc := 33) [(2, .int (M 0 15)), (1, .int s0), (0, .ref (b + 0))] dX10_goesOn_33 (by decide +kernel) rfl ?_
  exact V_sub [2, 1, 0] rfl (ok_X10_goesOn_b34  FU s0 (M 0 15) M z  hf)
def f_X10_goesOn_b27   (M : Mem) : Option (Int32 × Mem) :=
  f_X10_goesOn_b28  (0 : Int32) M
set_option maxRecDepth 20000 in
set_option maxHeartbeats 4000000 in
theorem ok_X10_goesOn_b27 {l : Launch} {g : Gam} {b : Nat}    (M : Mem) (z : Int32 × Mem)  (hf : f_X10_goesOn_b27  M = some z) : V l g (wM b) m_X10_goesOn 27 [(0, .ref (b + 0))] [] M none z.2 := by
  unfold f_X10_goesOn_b27 at hf
  refine V_iconst (Y := m_X10_goesOn) (pc := 27) (x := (0 : Int32)) dX10_goesOn_27 (by decide +kernel) ?_
  exact V_sub [0] rfl (ok_X10_goesOn_b28  (0 : Int32) M z  hf)
def f_X10_goesOn_b23   (M : Mem) : Option (Int32 × Mem) :=
  f_X10_goesOn_b28  (1 : Int32) M
set_option maxRecDepth 20000 in
set_option maxHeartbeats 4000000 in
theorem ok_X10_goesOn_b23 {l : Launch} {g : Gam} {b : Nat}    (M : Mem) (z : Int32 × Mem)  (hf : f_X10_goesOn_b23  M = some z) : V l g (wM b) m_X10_goesOn 23 [(0, .ref (b + 0))] [] M none z.2 := by
  unfold f_X10_goesOn_b23 at hf
  refine V_iconst (Y := m_X10_goesOn) (pc := 23) (x := (1 : Int32)) dX10_goesOn_23 (by decide +kernel) ?_
  refine V_goto (Y := m_X10_goesOn) (pc := 24) (tgt := 28) dX10_goesOn_24 (by decide +kernel) ?_
  exact V_sub [0] rfl (ok_X10_goesOn_b28  (1 : Int32) M z  hf)
def f_X10_goesOn_b0   (M : Mem) : Option (Int32 × Mem) :=
  if (M 0 15) ≤ 0 then
    f_X10_goesOn_b27   M
  else
    if (M 0 16) = (1 : Int32) then
      f_X10_goesOn_b23   M
    else
      if (M 0 16) = (2 : Int32) then
        f_X10_goesOn_b23   M
      else
        f_X10_goesOn_b27   M
set_option maxRecDepth 20000 in
set_option maxHeartbeats 4000000 in
theorem ok_X10_goesOn_b0 {l : Launch} {g : Gam} {b : Nat}    (M : Mem) (z : Int32 × Mem)  (hf : f_X10_goesOn_b0  M = some z) : V l g (wM b) m_X10_goesOn 0 [(0, .ref (b + 0))] [] M none z.2 := by
  unfold f_X10_goesOn_b0 at hf
  refine V_aload_n (Y := m_X10_goesOn) (pc := 0) 0 dX10_goesOn_0 rfl ?_
  refine V_gi (Y := m_X10_goesOn) (pc := 1) 15 kX10 sM_0 (by decide +kernel) rfl tw_1085 dX10_goesOn_1 ?_
  refine V_if_le (Y := m_X10_goesOn) (pc := 4) (tgt := 27) dX10_goesOn_4 (by decide +kernel) hf (fun hf => ?_) (fun hf => ?_)
  · exact V_sub [0] rfl (ok_X10_goesOn_b27   M z  hf)
  · refine V_aload_n (Y := m_X10_goesOn) (pc := 7) 0 dX10_goesOn_7 rfl ?_
    refine V_gi (Y := m_X10_goesOn) (pc := 8) 16 kX10 sM_0 (by decide +kernel) rfl tw_1086 dX10_goesOn_8 ?_
    refine V_iconst (Y := m_X10_goesOn) (pc := 11) (x := (1 : Int32)) dX10_goesOn_11 (by decide +kernel) ?_
    refine V_icmp_eq (Y := m_X10_goesOn) (pc := 12) (tgt := 23) dX10_goesOn_12 (by decide +kernel) hf (fun hf => ?_) (fun hf => ?_)
    · exact V_sub [0] rfl (ok_X10_goesOn_b23   M z  hf)
    · refine V_aload_n (Y := m_X10_goesOn) (pc := 15) 0 dX10_goesOn_15 rfl ?_
      refine V_gi (Y := m_X10_goesOn) (pc := 16) 16 kX10 sM_0 (by decide +kernel) rfl tw_1086 dX10_goesOn_16 ?_
      refine V_iconst (Y := m_X10_goesOn) (pc := 19) (x := (2 : Int32)) dX10_goesOn_19 (by decide +kernel) ?_
      refine V_icmp_ne (Y := m_X10_goesOn) (pc := 20) (tgt := 27) dX10_goesOn_20 (by decide +kernel) hf (fun hf => ?_) (fun hf => ?_)
      · exact V_sub [0] rfl (ok_X10_goesOn_b27   M z  hf)
      · exact V_sub [0] rfl (ok_X10_goesOn_b23   M z  hf)
def f_X10_goesOn  (M : Mem) : Option (Int32 × Mem) := f_X10_goesOn_b0  M
set_option maxRecDepth 20000 in
set_option maxHeartbeats 4000000 in
theorem ok_X10_goesOn {l : Launch} {g : Gam} {b : Nat} : ∀  (M : Mem) (z : Int32 × Mem), f_X10_goesOn  M = some z → Cn l g (wM b) m_X10_goesOn [.ref (b + 0)] M none z.2 := fun  M z  hf => Cn_of (by decide +kernel) (Nat.le_of_ble_eq_true rfl) (V_sub [0] rfl (ok_X10_goesOn_b0  M z  hf))

abbrev m_X10_isSign : Mth := (yX10_isSign, cX10_isSign, 2, some .boolean, 1)
theorem yf_X10_isSign : YF m_X10_isSign 1 := ⟨tw_1396, tw_75, by decide +kernel, by decide +kernel⟩
def f_X10_isSign_b0  (x1 : Int32) (M : Mem) : Option (Int32 × Mem) :=
  if (M 0 16) = (3 : Int32) then
    if (M 0 18) = x1 then
      some ((1 : Int32), M)
    else
      some ((0 : Int32), M)
  else
    some ((0 : Int32), M)
set_option maxRecDepth 20000 in
set_option maxHeartbeats 4000000 in
theorem ok_X10_isSign_b0 {l : Launch} {g : Gam} {b : Nat}   (x1 : Int32) (M : Mem) (z : Int32 × Mem)  (hf : f_X10_isSign_b0 x1 M = some z) : V l g (wM b) m_X10_isSign 0 [(0, .ref (b + 0)), (1, .int x1)] [] M (some (.int z.1)) z.2 := by
  unfold f_X10_isSign_b0 at hf
  refine V_aload_n (Y := m_X10_isSign) (pc := 0) 0 dX10_isSign_0 rfl ?_
  refine V_gi (Y := m_X10_isSign) (pc := 1) 16 kX10 sM_0 (by decide +kernel) rfl tw_1086 dX10_isSign_1 ?_
  refine V_iconst (Y := m_X10_isSign) (pc := 4) (x := (3 : Int32)) dX10_isSign_4 (by decide +kernel) ?_
  refine V_icmp_ne (Y := m_X10_isSign) (pc := 5) (tgt := 20) dX10_isSign_5 (by decide +kernel) hf (fun hf => ?_) (fun hf => ?_)
  · refine V_iconst (Y := m_X10_isSign) (pc := 20) (x := (0 : Int32)) dX10_isSign_20 (by decide +kernel) ?_
    obtain rfl := Option.some.inj hf
    exact V_zret (Y := m_X10_isSign) z01_0 rfl dX10_isSign_21
  · refine V_aload_n (Y := m_X10_isSign) (pc := 8) 0 dX10_isSign_8 rfl ?_
    refine V_gi (Y := m_X10_isSign) (pc := 9) 18 kX10 sM_0 (by decide +kernel) rfl tw_1088 dX10_isSign_9 ?_
    refine V_iload_n (Y := m_X10_isSign) (pc := 12) 1 dX10_isSign_12 rfl ?_
    refine V_icmp_ne (Y := m_X10_isSign) (pc := 13) (tgt := 20) dX10_isSign_13 (by decide +kernel) hf (fun hf => ?_) (fun hf => ?_)
    · refine V_iconst (Y := m_X10_isSign) (pc := 20) (x := (0 : Int32)) dX10_isSign_20 (by decide +kernel) ?_
      obtain rfl := Option.some.inj hf
      exact V_zret (Y := m_X10_isSign) z01_0 rfl dX10_isSign_21
    · refine V_iconst (Y := m_X10_isSign) (pc := 16) (x := (1 : Int32)) dX10_isSign_16 (by decide +kernel) ?_
      refine V_goto (Y := m_X10_isSign) (pc := 17) (tgt := 21) dX10_isSign_17 (by decide +kernel) ?_
      obtain rfl := Option.some.inj hf
      exact V_zret (Y := m_X10_isSign) z01_1 rfl dX10_isSign_21
def f_X10_isSign (x1 : Int32) (M : Mem) : Option (Int32 × Mem) := f_X10_isSign_b0 x1 M
set_option maxRecDepth 20000 in
set_option maxHeartbeats 4000000 in
theorem ok_X10_isSign {l : Launch} {g : Gam} {b : Nat} : ∀ (x1 : Int32) (M : Mem) (z : Int32 × Mem), f_X10_isSign x1 M = some z → Cn l g (wM b) m_X10_isSign [.ref (b + 0), .int x1] M (some (.int z.1)) z.2 := fun x1 M z  hf => Cn_of (by decide +kernel) (Nat.le_of_ble_eq_true rfl) (V_sub [0, 1] rfl (ok_X10_isSign_b0 x1 M z  hf))

abbrev m_X10_isWordAt : Mth := (yX10_isWordAt, cX10_isWordAt, 6, some .boolean, 1)
theorem yf_X10_isWordAt : YF m_X10_isWordAt 4 := ⟨tw_1357, tw_75, by decide +kernel, by decide +kernel⟩
def f_X10_isWordAt_b98   (M : Mem) : Option (Int32 × Mem) :=
  some ((1 : Int32), M)
set_option maxRecDepth 20000 in
set_option maxHeartbeats 4000000 in
theorem ok_X10_isWordAt_b98 {l : Launch} {g : Gam} {b : Nat}    (M : Mem) (z : Int32 × Mem)  (hf : f_X10_isWordAt_b98  M = some z) : V l g (wM b) m_X10_isWordAt 98 [] [] M (some (.int z.1)) z.2 := by
  unfold f_X10_isWordAt_b98 at hf
  refine V_iconst (Y := m_X10_isWordAt) (pc := 98) (x := (1 : Int32)) dX10_isWordAt_98 (by decide +kernel) ?_
  refine V_goto (Y := m_X10_isWordAt) (pc := 99) (tgt := 103) dX10_isWordAt_99 (by decide +kernel) ?_
  obtain rfl := Option.some.inj hf
  exact V_zret (Y := m_X10_isWordAt) z01_1 rfl dX10_isWordAt_103
def f_X10_isWordAt_b10  (x1 : Int32) (x2 : Int32) (x3 : Int32) (x4 : Int32) (s0 : Int32) (M : Mem) : Option (Int32 × Mem) :=
  if (M 0 16) = (1 : Int32) then
    if ((M 0 15) - (M 0 14)) = s0 then
      if ixb (M 0 14) 96 = true then
      if (M 12 (ix (M 0 14))) = x1 then
        if ixb ((M 0 14) + (1 : Int32)) 96 = true then
        if (M 12 (ix ((M 0 14) + (1 : Int32)))) = x2 then
          if ixb ((M 0 14) + (2 : Int32)) 96 = true then
          if (M 12 (ix ((M 0 14) + (2 : Int32)))) = x3 then
            if x4 = 0 then
              f_X10_isWordAt_b98   M
            else
              if ixb ((M 0 14) + (3 : Int32)) 96 = true then
              if (M 12 (ix ((M 0 14) + (3 : Int32)))) = x4 then
                f_X10_isWordAt_b98   M
              else
                some ((0 : Int32), M)
              else none
          else
            some ((0 : Int32), M)
          else none
        else
          some ((0 : Int32), M)
        else none
      else
        some ((0 : Int32), M)
      else none
    else
      some ((0 : Int32), M)
  else
    some ((0 : Int32), M)
set_option maxRecDepth 20000 in
set_option maxHeartbeats 4000000 in
theorem ok_X10_isWordAt_b10 {l : Launch} {g : Gam} {b : Nat}   (x1 : Int32) (x2 : Int32) (x3 : Int32) (x4 : Int32) (s0 : Int32) (M : Mem) (z : Int32 × Mem)  (hf : f_X10_isWordAt_b10 x1 x2 x3 x4 s0 M = some z) : V l g (wM b) m_X10_isWordAt 10 [(0, .ref (b + 0)), (1, .int x1), (2, .int x2), (3, .int x3), (4, .int x4)] [.int s0] M (some (.int z.1)) z.2 := by
  unfold f_X10_isWordAt_b10 at hf
  refine V_istore (Y := m_X10_isWordAt) (pc := 10) [(5, .int s0), (0, .ref (b + 0)), (1, .int x1), (2, .int x2), (3, .int x3), (4, .int x4)] dX10_isWordAt_10 (by decide +kernel) rfl ?_
  refine V_aload_n (Y := m_X10_isWordAt) (pc := 12) 1 dX10_isWordAt_12 rfl ?_
  refine V_gi (Y := m_X10_isWordAt) (pc := 13) 16 kX10 sM_0 (by decide +kernel) rfl tw_1086 dX10_isWordAt_13 ?_
  refine V_iconst (Y := m_X10_isWordAt) (pc := 16) (x := (1 : Int32)) dX10_isWordAt_16 (by decide +kernel) ?_
  refine V_icmp_ne (Y := m_X10_isWordAt) (pc := 17) (tgt := 102) dX10_isWordAt_17 (by decide +kernel) hf (fun hf => ?_) (fun hf => ?_)
  · refine V_iconst (Y := m_X10_isWordAt) (pc := 102) (x := (0 : Int32)) dX10_isWordAt_102 (by decide +kernel) ?_
    obtain rfl := Option.some.inj hf
    exact V_zret (Y := m_X10_isWordAt) z01_0 rfl dX10_isWordAt_103
  · refine V_aload_n (Y := m_X10_isWordAt) (pc := 20) 1 dX10_isWordAt_20 rfl ?_
    refine V_gi (Y := m_X10_isWordAt) (pc := 21) 15 kX10 sM_0 (by decide +kernel) rfl tw_1085 dX10_isWordAt_21 ?_
    refine V_aload_n (Y := m_X10_isWordAt) (pc := 24) 1 dX10_isWordAt_24 rfl ?_
    refine V_gi (Y := m_X10_isWordAt) (pc := 25) 14 kX10 sM_0 (by decide +kernel) rfl tw_1084 dX10_isWordAt_25 ?_
    refine V_isub (Y := m_X10_isWordAt) (pc := 28) dX10_isWordAt_28 ?_
    refine V_iload (Y := m_X10_isWordAt) (pc := 29) 0 dX10_isWordAt_29 rfl ?_
    refine V_icmp_ne (Y := m_X10_isWordAt) (pc := 31) (tgt := 102) dX10_isWordAt_31 (by decide +kernel) hf (fun hf => ?_) (fun hf => ?_)
    · refine V_iconst (Y := m_X10_isWordAt) (pc := 102) (x := (0 : Int32)) dX10_isWordAt_102 (by decide +kernel) ?_
      obtain rfl := Option.some.inj hf
      exact V_zret (Y := m_X10_isWordAt) z01_0 rfl dX10_isWordAt_103
    · refine V_aload_n (Y := m_X10_isWordAt) (pc := 34) 1 dX10_isWordAt_34 rfl ?_
      refine V_grL (Y := m_X10_isWordAt) (pc := 35) (x := 12) 12 kX10 sM_0 (by decide +kernel) rfl rfl tw_1082 dX10_isWordAt_35 ?_
      refine V_aload_n (Y := m_X10_isWordAt) (pc := 38) 1 dX10_isWordAt_38 rfl ?_
      refine V_gi (Y := m_X10_isWordAt) (pc := 39) 14 kX10 sM_0 (by decide +kernel) rfl tw_1084 dX10_isWordAt_39 ?_
      obtain ⟨hi1, hf⟩ := g_if hf
      refine V_iald (Y := m_X10_isWordAt) (pc := 42) sM_12 hi1 dX10_isWordAt_42 ?_
      refine V_iload_n (Y := m_X10_isWordAt) (pc := 43) 2 dX10_isWordAt_43 rfl ?_
      refine V_icmp_ne (Y := m_X10_isWordAt) (pc := 44) (tgt := 102) dX10_isWordAt_44 (by decide +kernel) hf (fun hf => ?_) (fun hf => ?_)
      · refine V_iconst (Y := m_X10_isWordAt) (pc := 102) (x := (0 : Int32)) dX10_isWordAt_102 (by decide +kernel) ?_
        obtain rfl := Option.some.inj hf
        exact V_zret (Y := m_X10_isWordAt) z01_0 rfl dX10_isWordAt_103
      · refine V_aload_n (Y := m_X10_isWordAt) (pc := 47) 1 dX10_isWordAt_47 rfl ?_
        refine V_grL (Y := m_X10_isWordAt) (pc := 48) (x := 12) 12 kX10 sM_0 (by decide +kernel) rfl rfl tw_1082 dX10_isWordAt_48 ?_
        refine V_aload_n (Y := m_X10_isWordAt) (pc := 51) 1 dX10_isWordAt_51 rfl ?_
        refine V_gi (Y := m_X10_isWordAt) (pc := 52) 14 kX10 sM_0 (by decide +kernel) rfl tw_1084 dX10_isWordAt_52 ?_
        refine V_iconst (Y := m_X10_isWordAt) (pc := 55) (x := (1 : Int32)) dX10_isWordAt_55 (by decide +kernel) ?_
        refine V_iadd (Y := m_X10_isWordAt) (pc := 56) dX10_isWordAt_56 ?_
        obtain ⟨hi2, hf⟩ := g_if hf
        refine V_iald (Y := m_X10_isWordAt) (pc := 57) sM_12 hi2 dX10_isWordAt_57 ?_
        refine V_iload_n (Y := m_X10_isWordAt) (pc := 58) 3 dX10_isWordAt_58 rfl ?_
        refine V_icmp_ne (Y := m_X10_isWordAt) (pc := 59) (tgt := 102) dX10_isWordAt_59 (by decide +kernel) hf (fun hf => ?_) (fun hf => ?_)
        · refine V_iconst (Y := m_X10_isWordAt) (pc := 102) (x := (0 : Int32)) dX10_isWordAt_102 (by decide +kernel) ?_
          obtain rfl := Option.some.inj hf
          exact V_zret (Y := m_X10_isWordAt) z01_0 rfl dX10_isWordAt_103
        · refine V_aload_n (Y := m_X10_isWordAt) (pc := 62) 1 dX10_isWordAt_62 rfl ?_
          refine V_grL (Y := m_X10_isWordAt) (pc := 63) (x := 12) 12 kX10 sM_0 (by decide +kernel) rfl rfl tw_1082 dX10_isWordAt_63 ?_
          refine V_aload_n (Y := m_X10_isWordAt) (pc := 66) 1 dX10_isWordAt_66 rfl ?_
          refine V_gi (Y := m_X10_isWordAt) (pc := 67) 14 kX10 sM_0 (by decide +kernel) rfl tw_1084 dX10_isWordAt_67 ?_
          refine V_iconst (Y := m_X10_isWordAt) (pc := 70) (x := (2 : Int32)) dX10_isWordAt_70 (by decide +kernel) ?_
          refine V_iadd (Y := m_X10_isWordAt) (pc := 71) dX10_isWordAt_71 ?_
          obtain ⟨hi3, hf⟩ := g_if hf
          refine V_iald (Y := m_X10_isWordAt) (pc := 72) sM_12 hi3 dX10_isWordAt_72 ?_
          refine V_iload_n (Y := m_X10_isWordAt) (pc := 73) 4 dX10_isWordAt_73 rfl ?_
          refine V_icmp_ne (Y := m_X10_isWordAt) (pc := 74) (tgt := 102) dX10_isWordAt_74 (by decide +kernel) hf (fun hf => ?_) (fun hf => ?_)
          · refine V_iconst (Y := m_X10_isWordAt) (pc := 102) (x := (0 : Int32)) dX10_isWordAt_102 (by decide +kernel) ?_
            obtain rfl := Option.some.inj hf
            exact V_zret (Y := m_X10_isWordAt) z01_0 rfl dX10_isWordAt_103
          · refine V_iload (Y := m_X10_isWordAt) (pc := 77) 5 dX10_isWordAt_77 rfl ?_
            refine V_if_eq (Y := m_X10_isWordAt) (pc := 79) (tgt := 98) dX10_isWordAt_79 (by decide +kernel) hf (fun hf => ?_) (fun hf => ?_)
            · exact V_sub [] rfl (ok_X10_isWordAt_b98   M z  hf)
            · refine V_aload_n (Y := m_X10_isWordAt) (pc := 82) 1 dX10_isWordAt_82 rfl ?_
              refine V_grL (Y := m_X10_isWordAt) (pc := 83) (x := 12) 12 kX10 sM_0 (by decide +kernel) rfl rfl tw_1082 dX10_isWordAt_83 ?_
              refine V_aload_n (Y := m_X10_isWordAt) (pc := 86) 1 dX10_isWordAt_86 rfl ?_
              refine V_gi (Y := m_X10_isWordAt) (pc := 87) 14 kX10 sM_0 (by decide +kernel) rfl tw_1084 dX10_isWordAt_87 ?_
              refine V_iconst (Y := m_X10_isWordAt) (pc := 90) (x := (3 : Int32)) dX10_isWordAt_90 (by decide +kernel) ?_
              refine V_iadd (Y := m_X10_isWordAt) (pc := 91) dX10_isWordAt_91 ?_
              obtain ⟨hi4, hf⟩ := g_if hf
              refine V_iald (Y := m_X10_isWordAt) (pc := 92) sM_12 hi4 dX10_isWordAt_92 ?_
              refine V_iload (Y := m_X10_isWordAt) (pc := 93) 5 dX10_isWordAt_93 rfl ?_
              refine V_icmp_ne (Y := m_X10_isWordAt) (pc := 95) (tgt := 102) dX10_isWordAt_95 (by decide +kernel) hf (fun hf => ?_) (fun hf => ?_)
              · refine V_iconst (Y := m_X10_isWordAt) (pc := 102) (x := (0 : Int32)) dX10_isWordAt_102 (by decide +kernel) ?_
                obtain rfl := Option.some.inj hf
                exact V_zret (Y := m_X10_isWordAt) z01_0 rfl dX10_isWordAt_103
              · exact V_sub [] rfl (ok_X10_isWordAt_b98   M z  hf)
def f_X10_isWordAt_b0  (x1 : Int32) (x2 : Int32) (x3 : Int32) (x4 : Int32) (M : Mem) : Option (Int32 × Mem) :=
  if x4 = 0 then
    f_X10_isWordAt_b10  x1 x2 x3 x4 (3 : Int32) M
  else
    f_X10_isWordAt_b10  x1 x2 x3 x4 (4 : Int32) M
set_option maxRecDepth 20000 in
set_option maxHeartbeats 4000000 in
theorem ok_X10_isWordAt_b0 {l : Launch} {g : Gam} {b : Nat}   (x1 : Int32) (x2 : Int32) (x3 : Int32) (x4 : Int32) (M : Mem) (z : Int32 × Mem)  (hf : f_X10_isWordAt_b0 x1 x2 x3 x4 M = some z) : V l g (wM b) m_X10_isWordAt 0 [(0, .ref (b + 0)), (1, .int x1), (2, .int x2), (3, .int x3), (4, .int x4)] [] M (some (.int z.1)) z.2 := by
  unfold f_X10_isWordAt_b0 at hf
  refine V_iload (Y := m_X10_isWordAt) (pc := 0) 4 dX10_isWordAt_0 rfl ?_
  refine V_if_ne (Y := m_X10_isWordAt) (pc := 2) (tgt := 9) dX10_isWordAt_2 (by decide +kernel) hf (fun hf => ?_) (fun hf => ?_)
  · refine V_iconst (Y := m_X10_isWordAt) (pc := 9) (x := (4 : Int32)) dX10_isWordAt_9 (by decide +kernel) ?_
    exact V_sub [0, 1, 2, 3, 4] rfl (ok_X10_isWordAt_b10  x1 x2 x3 x4 (4 : Int32) M z  hf)
  · refine V_iconst (Y := m_X10_isWordAt) (pc := 5) (x := (3 : Int32)) dX10_isWordAt_5 (by decide +kernel) ?_
    refine V_goto (Y := m_X10_isWordAt) (pc := 6) (tgt := 10) dX10_isWordAt_6 (by decide +kernel) ?_
    exact V_sub [0, 1, 2, 3, 4] rfl (ok_X10_isWordAt_b10  x1 x2 x3 x4 (3 : Int32) M z  hf)
def f_X10_isWordAt (x1 : Int32) (x2 : Int32) (x3 : Int32) (x4 : Int32) (M : Mem) : Option (Int32 × Mem) := f_X10_isWordAt_b0 x1 x2 x3 x4 M
set_option maxRecDepth 20000 in
set_option maxHeartbeats 4000000 in
theorem ok_X10_isWordAt {l : Launch} {g : Gam} {b : Nat} : ∀ (x1 : Int32) (x2 : Int32) (x3 : Int32) (x4 : Int32) (M : Mem) (z : Int32 × Mem), f_X10_isWordAt x1 x2 x3 x4 M = some z → Cn l g (wM b) m_X10_isWordAt [.ref (b + 0), .int x1, .int x2, .int x3, .int x4] M (some (.int z.1)) z.2 := fun x1 x2 x3 x4 M z  hf => Cn_of (by decide +kernel) (Nat.le_of_ble_eq_true rfl) (V_sub [0, 1, 2, 3, 4] rfl (ok_X10_isWordAt_b0 x1 x2 x3 x4 M z  hf))

abbrev m_X10_isLong : Mth := (yX10_isLong, cX10_isLong, 8, some .boolean, 1)
theorem yf_X10_isLong : YF m_X10_isLong 6 := ⟨tw_1361, tw_75, by decide +kernel, by decide +kernel⟩
def f_X10_isLong_b131   (M : Mem) : Option (Int32 × Mem) :=
  some ((1 : Int32), M)
set_option maxRecDepth 20000 in
set_option maxHeartbeats 4000000 in
theorem ok_X10_isLong_b131 {l : Launch} {g : Gam} {b : Nat}    (M : Mem) (z : Int32 × Mem)  (hf : f_X10_isLong_b131  M = some z) : V l g (wM b) m_X10_isLong 131 [] [] M (some (.int z.1)) z.2 := by
  unfold f_X10_isLong_b131 at hf
  refine V_iconst (Y := m_X10_isLong) (pc := 131) (x := (1 : Int32)) dX10_isLong_131 (by decide +kernel) ?_
  refine V_goto (Y := m_X10_isLong) (pc := 132) (tgt := 136) dX10_isLong_132 (by decide +kernel) ?_
  obtain rfl := Option.some.inj hf
  exact V_zret (Y := m_X10_isLong) z01_1 rfl dX10_isLong_136
def f_X10_isLong_b11  (x1 : Int32) (x2 : Int32) (x3 : Int32) (x4 : Int32) (x5 : Int32) (x6 : Int32) (s0 : Int32) (M : Mem) : Option (Int32 × Mem) :=
  if (M 0 16) = (1 : Int32) then
    if ((M 0 15) - (M 0 14)) = s0 then
      if ixb (M 0 14) 96 = true then
      if (M 12 (ix (M 0 14))) = x1 then
        if ixb ((M 0 14) + (1 : Int32)) 96 = true then
        if (M 12 (ix ((M 0 14) + (1 : Int32)))) = x2 then
          if ixb ((M 0 14) + (2 : Int32)) 96 = true then
          if (M 12 (ix ((M 0 14) + (2 : Int32)))) = x3 then
            if ixb ((M 0 14) + (3 : Int32)) 96 = true then
            if (M 12 (ix ((M 0 14) + (3 : Int32)))) = x4 then
              if ixb ((M 0 14) + (4 : Int32)) 96 = true then
              if (M 12 (ix ((M 0 14) + (4 : Int32)))) = x5 then
                if x6 = 0 then
                  f_X10_isLong_b131   M
                else
                  if ixb ((M 0 14) + (5 : Int32)) 96 = true then
                  if (M 12 (ix ((M 0 14) + (5 : Int32)))) = x6 then
                    f_X10_isLong_b131   M
                  else
                    some ((0 : Int32), M)
                  else none
              else
                some ((0 : Int32), M)
              else none
            else
              some ((0 : Int32), M)
            else none
          else
            some ((0 : Int32), M)
          else none
        else
          some ((0 : Int32), M)
        else none
      else
        some ((0 : Int32), M)
      else none
    else
      some ((0 : Int32), M)
  else
    some ((0 : Int32), M)
set_option maxRecDepth 20000 in
set_option maxHeartbeats 4000000 in
theorem ok_X10_isLong_b11 {l : Launch} {g : Gam} {b : Nat}   (x1 : Int32) (x2 : Int32) (x3 : Int32) (x4 : Int32) (x5 : Int32) (x6 : Int32) (s0 : Int32) (M : Mem) (z : Int32 × Mem)  (hf : f_X10_isLong_b11 x1 x2 x3 x4 x5 x6 s0 M = some z) : V l g (wM b) m_X10_isLong 11 [(0, .ref (b + 0)), (1, .int x1), (2, .int x2), (3, .int x3), (4, .int x4), (5, .int x5), (6, .int x6)] [.int s0] M (some (.int z.1)) z.2 := by
  unfold f_X10_isLong_b11 at hf
  refine V_istore (Y := m_X10_isLong) (pc := 11) [(7, .int s0), (0, .ref (b + 0)), (1, .int x1), (2, .int x2), (3, .int x3), (4, .int x4), (5, .int x5), (6, .int x6)] dX10_isLong_11 (by decide +kernel) rfl ?_
  refine V_aload_n (Y := m_X10_isLong) (pc := 13) 1 dX10_isLong_13 rfl ?_
  refine V_gi (Y := m_X10_isLong) (pc := 14) 16 kX10 sM_0 (by decide +kernel) rfl tw_1086 dX10_isLong_14 ?_
  refine V_iconst (Y := m_X10_isLong) (pc := 17) (x := (1 : Int32)) dX10_isLong_17 (by decide +kernel) ?_
  refine V_icmp_ne (Y := m_X10_isLong) (pc := 18) (tgt := 135) dX10_isLong_18 (by decide +kernel) hf (fun hf => ?_) (fun hf => ?_)
  · refine V_iconst (Y := m_X10_isLong) (pc := 135) (x := (0 : Int32)) dX10_isLong_135 (by decide +kernel) ?_
    obtain rfl := Option.some.inj hf
    exact V_zret (Y := m_X10_isLong) z01_0 rfl dX10_isLong_136
  · refine V_aload_n (Y := m_X10_isLong) (pc := 21) 1 dX10_isLong_21 rfl ?_
    refine V_gi (Y := m_X10_isLong) (pc := 22) 15 kX10 sM_0 (by decide +kernel) rfl tw_1085 dX10_isLong_22 ?_
    refine V_aload_n (Y := m_X10_isLong) (pc := 25) 1 dX10_isLong_25 rfl ?_
    refine V_gi (Y := m_X10_isLong) (pc := 26) 14 kX10 sM_0 (by decide +kernel) rfl tw_1084 dX10_isLong_26 ?_
    refine V_isub (Y := m_X10_isLong) (pc := 29) dX10_isLong_29 ?_
    refine V_iload (Y := m_X10_isLong) (pc := 30) 0 dX10_isLong_30 rfl ?_
    refine V_icmp_ne (Y := m_X10_isLong) (pc := 32) (tgt := 135) dX10_isLong_32 (by decide +kernel) hf (fun hf => ?_) (fun hf => ?_)
    · refine V_iconst (Y := m_X10_isLong) (pc := 135) (x := (0 : Int32)) dX10_isLong_135 (by decide +kernel) ?_
      obtain rfl := Option.some.inj hf
      exact V_zret (Y := m_X10_isLong) z01_0 rfl dX10_isLong_136
    · refine V_aload_n (Y := m_X10_isLong) (pc := 35) 1 dX10_isLong_35 rfl ?_
      refine V_grL (Y := m_X10_isLong) (pc := 36) (x := 12) 12 kX10 sM_0 (by decide +kernel) rfl rfl tw_1082 dX10_isLong_36 ?_
      refine V_aload_n (Y := m_X10_isLong) (pc := 39) 1 dX10_isLong_39 rfl ?_
      refine V_gi (Y := m_X10_isLong) (pc := 40) 14 kX10 sM_0 (by decide +kernel) rfl tw_1084 dX10_isLong_40 ?_
      obtain ⟨hi1, hf⟩ := g_if hf
      refine V_iald (Y := m_X10_isLong) (pc := 43) sM_12 hi1 dX10_isLong_43 ?_
      refine V_iload_n (Y := m_X10_isLong) (pc := 44) 2 dX10_isLong_44 rfl ?_
      refine V_icmp_ne (Y := m_X10_isLong) (pc := 45) (tgt := 135) dX10_isLong_45 (by decide +kernel) hf (fun hf => ?_) (fun hf => ?_)
      · refine V_iconst (Y := m_X10_isLong) (pc := 135) (x := (0 : Int32)) dX10_isLong_135 (by decide +kernel) ?_
        obtain rfl := Option.some.inj hf
        exact V_zret (Y := m_X10_isLong) z01_0 rfl dX10_isLong_136
      · refine V_aload_n (Y := m_X10_isLong) (pc := 48) 1 dX10_isLong_48 rfl ?_
        refine V_grL (Y := m_X10_isLong) (pc := 49) (x := 12) 12 kX10 sM_0 (by decide +kernel) rfl rfl tw_1082 dX10_isLong_49 ?_
        refine V_aload_n (Y := m_X10_isLong) (pc := 52) 1 dX10_isLong_52 rfl ?_
        refine V_gi (Y := m_X10_isLong) (pc := 53) 14 kX10 sM_0 (by decide +kernel) rfl tw_1084 dX10_isLong_53 ?_
        refine V_iconst (Y := m_X10_isLong) (pc := 56) (x := (1 : Int32)) dX10_isLong_56 (by decide +kernel) ?_
        refine V_iadd (Y := m_X10_isLong) (pc := 57) dX10_isLong_57 ?_
        obtain ⟨hi2, hf⟩ := g_if hf
        refine V_iald (Y := m_X10_isLong) (pc := 58) sM_12 hi2 dX10_isLong_58 ?_
        refine V_iload_n (Y := m_X10_isLong) (pc := 59) 3 dX10_isLong_59 rfl ?_
        refine V_icmp_ne (Y := m_X10_isLong) (pc := 60) (tgt := 135) dX10_isLong_60 (by decide +kernel) hf (fun hf => ?_) (fun hf => ?_)
        · refine V_iconst (Y := m_X10_isLong) (pc := 135) (x := (0 : Int32)) dX10_isLong_135 (by decide +kernel) ?_
          obtain rfl := Option.some.inj hf
          exact V_zret (Y := m_X10_isLong) z01_0 rfl dX10_isLong_136
        · refine V_aload_n (Y := m_X10_isLong) (pc := 63) 1 dX10_isLong_63 rfl ?_
          refine V_grL (Y := m_X10_isLong) (pc := 64) (x := 12) 12 kX10 sM_0 (by decide +kernel) rfl rfl tw_1082 dX10_isLong_64 ?_
          refine V_aload_n (Y := m_X10_isLong) (pc := 67) 1 dX10_isLong_67 rfl ?_
          refine V_gi (Y := m_X10_isLong) (pc := 68) 14 kX10 sM_0 (by decide +kernel) rfl tw_1084 dX10_isLong_68 ?_
          refine V_iconst (Y := m_X10_isLong) (pc := 71) (x := (2 : Int32)) dX10_isLong_71 (by decide +kernel) ?_
          refine V_iadd (Y := m_X10_isLong) (pc := 72) dX10_isLong_72 ?_
          obtain ⟨hi3, hf⟩ := g_if hf
          refine V_iald (Y := m_X10_isLong) (pc := 73) sM_12 hi3 dX10_isLong_73 ?_
          refine V_iload_n (Y := m_X10_isLong) (pc := 74) 4 dX10_isLong_74 rfl ?_
          refine V_icmp_ne (Y := m_X10_isLong) (pc := 75) (tgt := 135) dX10_isLong_75 (by decide +kernel) hf (fun hf => ?_) (fun hf => ?_)
          · refine V_iconst (Y := m_X10_isLong) (pc := 135) (x := (0 : Int32)) dX10_isLong_135 (by decide +kernel) ?_
            obtain rfl := Option.some.inj hf
            exact V_zret (Y := m_X10_isLong) z01_0 rfl dX10_isLong_136
          · refine V_aload_n (Y := m_X10_isLong) (pc := 78) 1 dX10_isLong_78 rfl ?_
            refine V_grL (Y := m_X10_isLong) (pc := 79) (x := 12) 12 kX10 sM_0 (by decide +kernel) rfl rfl tw_1082 dX10_isLong_79 ?_
            refine V_aload_n (Y := m_X10_isLong) (pc := 82) 1 dX10_isLong_82 rfl ?_
            refine V_gi (Y := m_X10_isLong) (pc := 83) 14 kX10 sM_0 (by decide +kernel) rfl tw_1084 dX10_isLong_83 ?_
            refine V_iconst (Y := m_X10_isLong) (pc := 86) (x := (3 : Int32)) dX10_isLong_86 (by decide +kernel) ?_
            refine V_iadd (Y := m_X10_isLong) (pc := 87) dX10_isLong_87 ?_
            obtain ⟨hi4, hf⟩ := g_if hf
            refine V_iald (Y := m_X10_isLong) (pc := 88) sM_12 hi4 dX10_isLong_88 ?_
            refine V_iload (Y := m_X10_isLong) (pc := 89) 5 dX10_isLong_89 rfl ?_
            refine V_icmp_ne (Y := m_X10_isLong) (pc := 91) (tgt := 135) dX10_isLong_91 (by decide +kernel) hf (fun hf => ?_) (fun hf => ?_)
            · refine V_iconst (Y := m_X10_isLong) (pc := 135) (x := (0 : Int32)) dX10_isLong_135 (by decide +kernel) ?_
              obtain rfl := Option.some.inj hf
              exact V_zret (Y := m_X10_isLong) z01_0 rfl dX10_isLong_136
            · refine V_aload_n (Y := m_X10_isLong) (pc := 94) 1 dX10_isLong_94 rfl ?_
              refine V_grL (Y := m_X10_isLong) (pc := 95) (x := 12) 12 kX10 sM_0 (by decide +kernel) rfl rfl tw_1082 dX10_isLong_95 ?_
              refine V_aload_n (Y := m_X10_isLong) (pc := 98) 1 dX10_isLong_98 rfl ?_
              refine V_gi (Y := m_X10_isLong) (pc := 99) 14 kX10 sM_0 (by decide +kernel) rfl tw_1084 dX10_isLong_99 ?_
              refine V_iconst (Y := m_X10_isLong) (pc := 102) (x := (4 : Int32)) dX10_isLong_102 (by decide +kernel) ?_
              refine V_iadd (Y := m_X10_isLong) (pc := 103) dX10_isLong_103 ?_
              obtain ⟨hi5, hf⟩ := g_if hf
              refine V_iald (Y := m_X10_isLong) (pc := 104) sM_12 hi5 dX10_isLong_104 ?_
              refine V_iload (Y := m_X10_isLong) (pc := 105) 6 dX10_isLong_105 rfl ?_
              refine V_icmp_ne (Y := m_X10_isLong) (pc := 107) (tgt := 135) dX10_isLong_107 (by decide +kernel) hf (fun hf => ?_) (fun hf => ?_)
              · refine V_iconst (Y := m_X10_isLong) (pc := 135) (x := (0 : Int32)) dX10_isLong_135 (by decide +kernel) ?_
                obtain rfl := Option.some.inj hf
                exact V_zret (Y := m_X10_isLong) z01_0 rfl dX10_isLong_136
              · refine V_iload (Y := m_X10_isLong) (pc := 110) 7 dX10_isLong_110 rfl ?_
                refine V_if_eq (Y := m_X10_isLong) (pc := 112) (tgt := 131) dX10_isLong_112 (by decide +kernel) hf (fun hf => ?_) (fun hf => ?_)
                · exact V_sub [] rfl (ok_X10_isLong_b131   M z  hf)
                · refine V_aload_n (Y := m_X10_isLong) (pc := 115) 1 dX10_isLong_115 rfl ?_
                  refine V_grL (Y := m_X10_isLong) (pc := 116) (x := 12) 12 kX10 sM_0 (by decide +kernel) rfl rfl tw_1082 dX10_isLong_116 ?_
                  refine V_aload_n (Y := m_X10_isLong) (pc := 119) 1 dX10_isLong_119 rfl ?_
                  refine V_gi (Y := m_X10_isLong) (pc := 120) 14 kX10 sM_0 (by decide +kernel) rfl tw_1084 dX10_isLong_120 ?_
                  refine V_iconst (Y := m_X10_isLong) (pc := 123) (x := (5 : Int32)) dX10_isLong_123 (by decide +kernel) ?_
                  refine V_iadd (Y := m_X10_isLong) (pc := 124) dX10_isLong_124 ?_
                  obtain ⟨hi6, hf⟩ := g_if hf
                  refine V_iald (Y := m_X10_isLong) (pc := 125) sM_12 hi6 dX10_isLong_125 ?_
                  refine V_iload (Y := m_X10_isLong) (pc := 126) 7 dX10_isLong_126 rfl ?_
                  refine V_icmp_ne (Y := m_X10_isLong) (pc := 128) (tgt := 135) dX10_isLong_128 (by decide +kernel) hf (fun hf => ?_) (fun hf => ?_)
                  · refine V_iconst (Y := m_X10_isLong) (pc := 135) (x := (0 : Int32)) dX10_isLong_135 (by decide +kernel) ?_
                    obtain rfl := Option.some.inj hf
                    exact V_zret (Y := m_X10_isLong) z01_0 rfl dX10_isLong_136
                  · exact V_sub [] rfl (ok_X10_isLong_b131   M z  hf)
def f_X10_isLong_b0  (x1 : Int32) (x2 : Int32) (x3 : Int32) (x4 : Int32) (x5 : Int32) (x6 : Int32) (M : Mem) : Option (Int32 × Mem) :=
  if x6 = 0 then
    f_X10_isLong_b11  x1 x2 x3 x4 x5 x6 (5 : Int32) M
  else
    f_X10_isLong_b11  x1 x2 x3 x4 x5 x6 (6 : Int32) M
set_option maxRecDepth 20000 in
set_option maxHeartbeats 4000000 in
theorem ok_X10_isLong_b0 {l : Launch} {g : Gam} {b : Nat}   (x1 : Int32) (x2 : Int32) (x3 : Int32) (x4 : Int32) (x5 : Int32) (x6 : Int32) (M : Mem) (z : Int32 × Mem)  (hf : f_X10_isLong_b0 x1 x2 x3 x4 x5 x6 M = some z) : V l g (wM b) m_X10_isLong 0 [(0, .ref (b + 0)), (1, .int x1), (2, .int x2), (3, .int x3), (4, .int x4), (5, .int x5), (6, .int x6)] [] M (some (.int z.1)) z.2 := by
  unfold f_X10_isLong_b0 at hf
  refine V_iload (Y := m_X10_isLong) (pc := 0) 6 dX10_isLong_0 rfl ?_
  refine V_if_ne (Y := m_X10_isLong) (pc := 2) (tgt := 9) dX10_isLong_2 (by decide +kernel) hf (fun hf => ?_) (fun hf => ?_)
  · refine V_bipush (Y := m_X10_isLong) (pc := 9) (x := (6 : Int32)) dX10_isLong_9 (by decide +kernel) ?_
    exact V_sub [0, 1, 2, 3, 4, 5, 6] rfl (ok_X10_isLong_b11  x1 x2 x3 x4 x5 x6 (6 : Int32) M z  hf)
  · refine V_iconst (Y := m_X10_isLong) (pc := 5) (x := (5 : Int32)) dX10_isLong_5 (by decide +kernel) ?_
    refine V_goto (Y := m_X10_isLong) (pc := 6) (tgt := 11) dX10_isLong_6 (by decide +kernel) ?_
    exact V_sub [0, 1, 2, 3, 4, 5, 6] rfl (ok_X10_isLong_b11  x1 x2 x3 x4 x5 x6 (5 : Int32) M z  hf)
def f_X10_isLong (x1 : Int32) (x2 : Int32) (x3 : Int32) (x4 : Int32) (x5 : Int32) (x6 : Int32) (M : Mem) : Option (Int32 × Mem) := f_X10_isLong_b0 x1 x2 x3 x4 x5 x6 M
set_option maxRecDepth 20000 in
set_option maxHeartbeats 4000000 in
theorem ok_X10_isLong {l : Launch} {g : Gam} {b : Nat} : ∀ (x1 : Int32) (x2 : Int32) (x3 : Int32) (x4 : Int32) (x5 : Int32) (x6 : Int32) (M : Mem) (z : Int32 × Mem), f_X10_isLong x1 x2 x3 x4 x5 x6 M = some z → Cn l g (wM b) m_X10_isLong [.ref (b + 0), .int x1, .int x2, .int x3, .int x4, .int x5, .int x6] M (some (.int z.1)) z.2 := fun x1 x2 x3 x4 x5 x6 M z  hf => Cn_of (by decide +kernel) (Nat.le_of_ble_eq_true rfl) (V_sub [0, 1, 2, 3, 4, 5, 6] rfl (ok_X10_isLong_b0 x1 x2 x3 x4 x5 x6 M z  hf))

abbrev m_X10_key : Mth := (yX10_key, cX10_key, 2, some .int, 4)
theorem yf_X10_key : YF m_X10_key 0 := ⟨tw_1353, tw_75, by decide +kernel, by decide +kernel⟩
def f_X10_key_b65  (s0 : Int32) (M : Mem) : Option (Int32 × Mem) :=
  if 0 ≤ s0 then
    (f_X10_goesOn  M).bind fun q1 =>
    if (q1.2 0 16) = (2 : Int32) then
      if (3 : Int32) ≤ (q1.2 0 17) then
        some ((-1 : Int32), q1.2)
      else
        some ((s0 + (q1.2 0 17)), q1.2)
    else
      some ((-1 : Int32), q1.2)
  else
    some ((-1 : Int32), M)
set_option maxRecDepth 20000 in
set_option maxHeartbeats 4000000 in
theorem ok_X10_key_b65 {l : Launch} {g : Gam} {b : Nat}   (s0 : Int32) (M : Mem) (z : Int32 × Mem)  (hf : f_X10_key_b65 s0 M = some z) : V l g (wM b) m_X10_key 65 [(0, .ref (b + 0))] [.int s0] M (some (.int z.1)) z.2 := by
  unfold f_X10_key_b65 at hf
  refine V_istore_n (Y := m_X10_key) (pc := 65) [(1, .int s0), (0, .ref (b + 0))] dX10_key_65 (by decide +kernel) rfl ?_
  refine V_iload_n (Y := m_X10_key) (pc := 66) 0 dX10_key_66 rfl ?_
  refine V_if_ge (Y := m_X10_key) (pc := 67) (tgt := 72) dX10_key_67 (by decide +kernel) hf (fun hf => ?_) (fun hf => ?_)
  · refine V_aload_n (Y := m_X10_key) (pc := 72) 1 dX10_key_72 rfl ?_
    obtain ⟨q1, hq1, hf⟩ := g_bind hf
    refine V_cVv (Y := m_X10_key) (pc := 73) (As := []) yf_X10_goesOn kX10 sM_0 (by decide +kernel) (ok_X10_goesOn  M _  hq1) tw_1336 tw_32 tw_1334 rfl rfl (Nat.le_of_ble_eq_true rfl) dX10_key_73 ?_
    refine V_aload_n (Y := m_X10_key) (pc := 76) 1 dX10_key_76 rfl ?_
    refine V_gi (Y := m_X10_key) (pc := 77) 16 kX10 sM_0 (by decide +kernel) rfl tw_1086 dX10_key_77 ?_
    refine V_iconst (Y := m_X10_key) (pc := 80) (x := (2 : Int32)) dX10_key_80 (by decide +kernel) ?_
    refine V_icmp_ne (Y := m_X10_key) (pc := 81) (tgt := 101) dX10_key_81 (by decide +kernel) hf (fun hf => ?_) (fun hf => ?_)
    · refine V_iconst (Y := m_X10_key) (pc := 101) (x := (-1 : Int32)) dX10_key_101 (by decide +kernel) ?_
      obtain rfl := Option.some.inj hf
      exact V_iret (Y := m_X10_key) rfl dX10_key_102
    · refine V_aload_n (Y := m_X10_key) (pc := 84) 1 dX10_key_84 rfl ?_
      refine V_gi (Y := m_X10_key) (pc := 85) 17 kX10 sM_0 (by decide +kernel) rfl tw_1087 dX10_key_85 ?_
      refine V_iconst (Y := m_X10_key) (pc := 88) (x := (3 : Int32)) dX10_key_88 (by decide +kernel) ?_
      refine V_icmp_ge (Y := m_X10_key) (pc := 89) (tgt := 101) dX10_key_89 (by decide +kernel) hf (fun hf => ?_) (fun hf => ?_)
      · refine V_iconst (Y := m_X10_key) (pc := 101) (x := (-1 : Int32)) dX10_key_101 (by decide +kernel) ?_
        obtain rfl := Option.some.inj hf
        exact V_iret (Y := m_X10_key) rfl dX10_key_102
      · refine V_iload_n (Y := m_X10_key) (pc := 92) 0 dX10_key_92 rfl ?_
        refine V_aload_n (Y := m_X10_key) (pc := 93) 1 dX10_key_93 rfl ?_
        refine V_gi (Y := m_X10_key) (pc := 94) 17 kX10 sM_0 (by decide +kernel) rfl tw_1087 dX10_key_94 ?_
        refine V_iadd (Y := m_X10_key) (pc := 97) dX10_key_97 ?_
        refine V_goto (Y := m_X10_key) (pc := 98) (tgt := 102) dX10_key_98 (by decide +kernel) ?_
        obtain rfl := Option.some.inj hf
        exact V_iret (Y := m_X10_key) rfl dX10_key_102
  · refine V_iconst (Y := m_X10_key) (pc := 70) (x := (-1 : Int32)) dX10_key_70 (by decide +kernel) ?_
    obtain rfl := Option.some.inj hf
    exact V_iret (Y := m_X10_key) rfl dX10_key_71
def f_X10_key_b0   (M : Mem) : Option (Int32 × Mem) :=
  (f_X10_isWordAt (108 : Int32) (111 : Int32) (103 : Int32) (0 : Int32) M).bind fun q1 =>
  if q1.1 = 0 then
    (f_X10_isLong (110 : Int32) (101 : Int32) (101 : Int32) (100 : Int32) (108 : Int32) (101 : Int32) q1.2).bind fun q2 =>
    if q2.1 = 0 then
      (f_X10_isLong (119 : Int32) (97 : Int32) (116 : Int32) (99 : Int32) (104 : Int32) (0 : Int32) q2.2).bind fun q3 =>
      if q3.1 = 0 then
        f_X10_key_b65  (-1 : Int32) q3.2
      else
        f_X10_key_b65  (6 : Int32) q3.2
    else
      f_X10_key_b65  (3 : Int32) q2.2
  else
    f_X10_key_b65  (0 : Int32) q1.2
set_option maxRecDepth 20000 in
set_option maxHeartbeats 4000000 in
theorem ok_X10_key_b0 {l : Launch} {g : Gam} {b : Nat}    (M : Mem) (z : Int32 × Mem)  (hf : f_X10_key_b0  M = some z) : V l g (wM b) m_X10_key 0 [(0, .ref (b + 0))] [] M (some (.int z.1)) z.2 := by
  unfold f_X10_key_b0 at hf
  refine V_aload_n (Y := m_X10_key) (pc := 0) 0 dX10_key_0 rfl ?_
  refine V_bipush (Y := m_X10_key) (pc := 1) (x := (108 : Int32)) dX10_key_1 (by decide +kernel) ?_
  refine V_bipush (Y := m_X10_key) (pc := 3) (x := (111 : Int32)) dX10_key_3 (by decide +kernel) ?_
  refine V_bipush (Y := m_X10_key) (pc := 5) (x := (103 : Int32)) dX10_key_5 (by decide +kernel) ?_
  refine V_iconst (Y := m_X10_key) (pc := 7) (x := (0 : Int32)) dX10_key_7 (by decide +kernel) ?_
  obtain ⟨q1, hq1, hf⟩ := g_bind hf
  refine V_cVi (Y := m_X10_key) (pc := 8) (As := [.int (108 : Int32), .int (111 : Int32), .int (103 : Int32), .int (0 : Int32)]) yf_X10_isWordAt kX10 sM_0 (by decide +kernel) (ok_X10_isWordAt (108 : Int32) (111 : Int32) (103 : Int32) (0 : Int32) M _  hq1) tw_1356 tw_36 tw_1354 rfl rfl (Nat.le_of_ble_eq_true rfl) dX10_key_8 ?_
  refine V_if_eq (Y := m_X10_key) (pc := 11) (tgt := 18) dX10_key_11 (by decide +kernel) hf (fun hf => ?_) (fun hf => ?_)
  · refine V_aload_n (Y := m_X10_key) (pc := 18) 0 dX10_key_18 rfl ?_
    refine V_bipush (Y := m_X10_key) (pc := 19) (x := (110 : Int32)) dX10_key_19 (by decide +kernel) ?_
    refine V_bipush (Y := m_X10_key) (pc := 21) (x := (101 : Int32)) dX10_key_21 (by decide +kernel) ?_
    refine V_bipush (Y := m_X10_key) (pc := 23) (x := (101 : Int32)) dX10_key_23 (by decide +kernel) ?_
    refine V_bipush (Y := m_X10_key) (pc := 25) (x := (100 : Int32)) dX10_key_25 (by decide +kernel) ?_
    refine V_bipush (Y := m_X10_key) (pc := 27) (x := (108 : Int32)) dX10_key_27 (by decide +kernel) ?_
    refine V_bipush (Y := m_X10_key) (pc := 29) (x := (101 : Int32)) dX10_key_29 (by decide +kernel) ?_
    obtain ⟨q2, hq2, hf⟩ := g_bind hf
    refine V_cVi (Y := m_X10_key) (pc := 31) (As := [.int (110 : Int32), .int (101 : Int32), .int (101 : Int32), .int (100 : Int32), .int (108 : Int32), .int (101 : Int32)]) yf_X10_isLong kX10 sM_0 (by decide +kernel) (ok_X10_isLong (110 : Int32) (101 : Int32) (101 : Int32) (100 : Int32) (108 : Int32) (101 : Int32) q1.2 _  hq2) tw_1360 tw_37 tw_1358 rfl rfl (Nat.le_of_ble_eq_true rfl) dX10_key_31 ?_
    refine V_if_eq (Y := m_X10_key) (pc := 34) (tgt := 41) dX10_key_34 (by decide +kernel) hf (fun hf => ?_) (fun hf => ?_)
    · refine V_aload_n (Y := m_X10_key) (pc := 41) 0 dX10_key_41 rfl ?_
      refine V_bipush (Y := m_X10_key) (pc := 42) (x := (119 : Int32)) dX10_key_42 (by decide +kernel) ?_
      refine V_bipush (Y := m_X10_key) (pc := 44) (x := (97 : Int32)) dX10_key_44 (by decide +kernel) ?_
      refine V_bipush (Y := m_X10_key) (pc := 46) (x := (116 : Int32)) dX10_key_46 (by decide +kernel) ?_
      refine V_bipush (Y := m_X10_key) (pc := 48) (x := (99 : Int32)) dX10_key_48 (by decide +kernel) ?_
      refine V_bipush (Y := m_X10_key) (pc := 50) (x := (104 : Int32)) dX10_key_50 (by decide +kernel) ?_
      refine V_iconst (Y := m_X10_key) (pc := 52) (x := (0 : Int32)) dX10_key_52 (by decide +kernel) ?_
      obtain ⟨q3, hq3, hf⟩ := g_bind hf
      refine V_cVi (Y := m_X10_key) (pc := 53) (As := [.int (119 : Int32), .int (97 : Int32), .int (116 : Int32), .int (99 : Int32), .int (104 : Int32), .int (0 : Int32)]) yf_X10_isLong kX10 sM_0 (by decide +kernel) (ok_X10_isLong (119 : Int32) (97 : Int32) (116 : Int32) (99 : Int32) (104 : Int32) (0 : Int32) q2.2 _  hq3) tw_1360 tw_37 tw_1358 rfl rfl (Nat.le_of_ble_eq_true rfl) dX10_key_53 ?_
      refine V_if_eq (Y := m_X10_key) (pc := 56) (tgt := 64) dX10_key_56 (by decide +kernel) hf (fun hf => ?_) (fun hf => ?_)
      · refine V_iconst (Y := m_X10_key) (pc := 64) (x := (-1 : Int32)) dX10_key_64 (by decide +kernel) ?_
        exact V_sub [0] rfl (ok_X10_key_b65  (-1 : Int32) q3.2 z  hf)
      · refine V_bipush (Y := m_X10_key) (pc := 59) (x := (6 : Int32)) dX10_key_59 (by decide +kernel) ?_
        refine V_goto (Y := m_X10_key) (pc := 61) (tgt := 65) dX10_key_61 (by decide +kernel) ?_
        exact V_sub [0] rfl (ok_X10_key_b65  (6 : Int32) q3.2 z  hf)
    · refine V_iconst (Y := m_X10_key) (pc := 37) (x := (3 : Int32)) dX10_key_37 (by decide +kernel) ?_
      refine V_goto (Y := m_X10_key) (pc := 38) (tgt := 65) dX10_key_38 (by decide +kernel) ?_
      exact V_sub [0] rfl (ok_X10_key_b65  (3 : Int32) q2.2 z  hf)
  · refine V_iconst (Y := m_X10_key) (pc := 14) (x := (0 : Int32)) dX10_key_14 (by decide +kernel) ?_
    refine V_goto (Y := m_X10_key) (pc := 15) (tgt := 65) dX10_key_15 (by decide +kernel) ?_
    exact V_sub [0] rfl (ok_X10_key_b65  (0 : Int32) q1.2 z  hf)
def f_X10_key  (M : Mem) : Option (Int32 × Mem) := f_X10_key_b0  M
set_option maxRecDepth 20000 in
set_option maxHeartbeats 4000000 in
theorem ok_X10_key {l : Launch} {g : Gam} {b : Nat} : ∀  (M : Mem) (z : Int32 × Mem), f_X10_key  M = some z → Cn l g (wM b) m_X10_key [.ref (b + 0)] M (some (.int z.1)) z.2 := fun  M z  hf => Cn_of (by decide +kernel) (Nat.le_of_ble_eq_true rfl) (V_sub [0] rfl (ok_X10_key_b0  M z  hf))

abbrev m_X10_isName : Mth := (yX10_isName, cX10_isName, 2, some .boolean, 1)
theorem yf_X10_isName : YF m_X10_isName 2 := ⟨tw_1392, tw_75, by decide +kernel, by decide +kernel⟩
def f_X10_isName_b25   (M : Mem) : Option (Int32 × Mem) :=
  some ((1 : Int32), M)
set_option maxRecDepth 20000 in
set_option maxHeartbeats 4000000 in
theorem ok_X10_isName_b25 {l : Launch} {g : Gam} {b : Nat}    (M : Mem) (z : Int32 × Mem)  (hf : f_X10_isName_b25  M = some z) : V l g (wM b) m_X10_isName 25 [] [] M (some (.int z.1)) z.2 := by
  unfold f_X10_isName_b25 at hf
  refine V_iconst (Y := m_X10_isName) (pc := 25) (x := (1 : Int32)) dX10_isName_25 (by decide +kernel) ?_
  refine V_goto (Y := m_X10_isName) (pc := 26) (tgt := 30) dX10_isName_26 (by decide +kernel) ?_
  obtain rfl := Option.some.inj hf
  exact V_zret (Y := m_X10_isName) z01_1 rfl dX10_isName_30
def f_X10_isName_b0  (x0 : Int32) (x1 : Int32) (M : Mem) : Option (Int32 × Mem) :=
  if x1 = (100 : Int32) then
    f_X10_isName_b25   M
  else
    if x1 = (97 : Int32) then
      f_X10_isName_b25   M
    else
      if x1 = (111 : Int32) then
        if (x0 / (3 : Int32)) = (1 : Int32) then
          f_X10_isName_b25   M
        else
          some ((0 : Int32), M)
      else
        some ((0 : Int32), M)
set_option maxRecDepth 20000 in
set_option maxHeartbeats 4000000 in
theorem ok_X10_isName_b0 {l : Launch} {g : Gam} {b : Nat}   (x0 : Int32) (x1 : Int32) (M : Mem) (z : Int32 × Mem)  (hf : f_X10_isName_b0 x0 x1 M = some z) : V l g (wM b) m_X10_isName 0 [(0, .int x0), (1, .int x1)] [] M (some (.int z.1)) z.2 := by
  unfold f_X10_isName_b0 at hf
  refine V_iload_n (Y := m_X10_isName) (pc := 0) 1 dX10_isName_0 rfl ?_
  refine V_bipush (Y := m_X10_isName) (pc := 1) (x := (100 : Int32)) dX10_isName_1 (by decide +kernel) ?_
  refine V_icmp_eq (Y := m_X10_isName) (pc := 3) (tgt := 25) dX10_isName_3 (by decide +kernel) hf (fun hf => ?_) (fun hf => ?_)
  · exact V_sub [] rfl (ok_X10_isName_b25   M z  hf)
  · refine V_iload_n (Y := m_X10_isName) (pc := 6) 1 dX10_isName_6 rfl ?_
    refine V_bipush (Y := m_X10_isName) (pc := 7) (x := (97 : Int32)) dX10_isName_7 (by decide +kernel) ?_
    refine V_icmp_eq (Y := m_X10_isName) (pc := 9) (tgt := 25) dX10_isName_9 (by decide +kernel) hf (fun hf => ?_) (fun hf => ?_)
    · exact V_sub [] rfl (ok_X10_isName_b25   M z  hf)
    · refine V_iload_n (Y := m_X10_isName) (pc := 12) 1 dX10_isName_12 rfl ?_
      refine V_bipush (Y := m_X10_isName) (pc := 13) (x := (111 : Int32)) dX10_isName_13 (by decide +kernel) ?_
      refine V_icmp_ne (Y := m_X10_isName) (pc := 15) (tgt := 29) dX10_isName_15 (by decide +kernel) hf (fun hf => ?_) (fun hf => ?_)
      · refine V_iconst (Y := m_X10_isName) (pc := 29) (x := (0 : Int32)) dX10_isName_29 (by decide +kernel) ?_
        obtain rfl := Option.some.inj hf
        exact V_zret (Y := m_X10_isName) z01_0 rfl dX10_isName_30
      · refine V_iload_n (Y := m_X10_isName) (pc := 18) 0 dX10_isName_18 rfl ?_
        refine V_iconst (Y := m_X10_isName) (pc := 19) (x := (3 : Int32)) dX10_isName_19 (by decide +kernel) ?_
        refine V_idiv (Y := m_X10_isName) (pc := 20) dX10_isName_20 (by decide +kernel) ?_
        refine V_iconst (Y := m_X10_isName) (pc := 21) (x := (1 : Int32)) dX10_isName_21 (by decide +kernel) ?_
        refine V_icmp_ne (Y := m_X10_isName) (pc := 22) (tgt := 29) dX10_isName_22 (by decide +kernel) hf (fun hf => ?_) (fun hf => ?_)
        · refine V_iconst (Y := m_X10_isName) (pc := 29) (x := (0 : Int32)) dX10_isName_29 (by decide +kernel) ?_
          obtain rfl := Option.some.inj hf
          exact V_zret (Y := m_X10_isName) z01_0 rfl dX10_isName_30
        · exact V_sub [] rfl (ok_X10_isName_b25   M z  hf)
def f_X10_isName (x0 : Int32) (x1 : Int32) (M : Mem) : Option (Int32 × Mem) := f_X10_isName_b0 x0 x1 M
set_option maxRecDepth 20000 in
set_option maxHeartbeats 4000000 in
theorem ok_X10_isName {l : Launch} {g : Gam} {b : Nat} : ∀ (x0 : Int32) (x1 : Int32) (M : Mem) (z : Int32 × Mem), f_X10_isName x0 x1 M = some z → Cn l g (wM b) m_X10_isName [.int x0, .int x1] M (some (.int z.1)) z.2 := fun x0 x1 M z  hf => Cn_of (by decide +kernel) (Nat.le_of_ble_eq_true rfl) (V_sub [0, 1] rfl (ok_X10_isName_b0 x0 x1 M z  hf))

abbrev m_X10_step : Mth := (yX10_step, cX10_step, 3, none, 1)
theorem yf_X10_step : YF m_X10_step 2 := ⟨tw_1389, tw_75, by decide +kernel, by decide +kernel⟩
def f_X10_step_bc34_1  (x2 : Int32) (s0 : Int32) (M : Mem) : Option (Int32 × Mem) :=
  if ixb s0 3300 = true then
  some (0, (mset (mset M 1 (ix s0) x2) 0 21 (((mset M 1 (ix s0) x2) 0 21) + (1 : Int32))))
  else none
set_option maxRecDepth 20000 in
set_option maxHeartbeats 4000000 in
theorem ok_X10_step_bc34_1 {l : Launch} {g : Gam} {b : Nat}   (x2 : Int32) (s0 : Int32) (M : Mem) (z : Int32 × Mem)  (hf : f_X10_step_bc34_1 x2 s0 M = some z) : V l g (wM b) m_X10_step 34 [(0, .ref (b + 0)), (2, .int x2)] [.int s0, .ref (b + 1)] M none z.2 := by
  unfold f_X10_step_bc34_1 at hf
  refine V_iload_n (Y := m_X10_step) (pc := 34) 1 dX10_step_34 rfl ?_
  obtain ⟨hi1, hf⟩ := g_if hf
  refine V_iast (Y := m_X10_step) (pc := 35) sM_1 hi1 dX10_step_35 ?_
  refine V_aload_n (Y := m_X10_step) (pc := 36) 0 dX10_step_36 rfl ?_
  refine V_dup (Y := m_X10_step) (pc := 37) dX10_step_37 rfl ?_
  refine V_gi (Y := m_X10_step) (pc := 38) 21 kX10 sM_0 (by decide +kernel) rfl tw_1091 dX10_step_38 ?_
  refine V_iconst (Y := m_X10_step) (pc := 41) (x := (1 : Int32)) dX10_step_41 (by decide +kernel) ?_
  refine V_iadd (Y := m_X10_step) (pc := 42) dX10_step_42 ?_
  refine V_pi (Y := m_X10_step) (pc := 43) 21 kX10 sM_0 (by decide +kernel) rfl rfl rfl tw_1091 dX10_step_43 ?_
  obtain rfl := Option.some.inj hf
  exact V_vret (Y := m_X10_step) rfl dX10_step_46
def f_X10_step_b0  (x1 : Int32) (x2 : Int32) (M : Mem) : Option (Int32 × Mem) :=
  if ixb ((M 0 22) + ((2 : Int32) * (M 0 21))) 3300 = true then
  f_X10_step_bc34_1  x2 ((((mset M 1 (ix ((M 0 22) + ((2 : Int32) * (M 0 21)))) x1) 0 22) + ((2 : Int32) * ((mset M 1 (ix ((M 0 22) + ((2 : Int32) * (M 0 21)))) x1) 0 21))) + (1 : Int32)) (mset M 1 (ix ((M 0 22) + ((2 : Int32) * (M 0 21)))) x1)
  else none
set_option maxRecDepth 20000 in
set_option maxHeartbeats 4000000 in
theorem ok_X10_step_b0 {l : Launch} {g : Gam} {b : Nat}   (x1 : Int32) (x2 : Int32) (M : Mem) (z : Int32 × Mem)  (hf : f_X10_step_b0 x1 x2 M = some z) : V l g (wM b) m_X10_step 0 [(0, .ref (b + 0)), (1, .int x1), (2, .int x2)] [] M none z.2 := by
  unfold f_X10_step_b0 at hf
  refine V_aload_n (Y := m_X10_step) (pc := 0) 0 dX10_step_0 rfl ?_
  refine V_grL (Y := m_X10_step) (pc := 1) (x := 1) 0 kX10 sM_0 (by decide +kernel) rfl rfl tw_1070 dX10_step_1 ?_
  refine V_aload_n (Y := m_X10_step) (pc := 4) 0 dX10_step_4 rfl ?_
  refine V_gi (Y := m_X10_step) (pc := 5) 22 kX10 sM_0 (by decide +kernel) rfl tw_1092 dX10_step_5 ?_
  refine V_iconst (Y := m_X10_step) (pc := 8) (x := (2 : Int32)) dX10_step_8 (by decide +kernel) ?_
  refine V_aload_n (Y := m_X10_step) (pc := 9) 0 dX10_step_9 rfl ?_
  refine V_gi (Y := m_X10_step) (pc := 10) 21 kX10 sM_0 (by decide +kernel) rfl tw_1091 dX10_step_10 ?_
  refine V_imul (Y := m_X10_step) (pc := 13) dX10_step_13 ?_
  refine V_iadd (Y := m_X10_step) (pc := 14) dX10_step_14 ?_
  refine V_iload_n (Y := m_X10_step) (pc := 15) 1 dX10_step_15 rfl ?_
  obtain ⟨hi1, hf⟩ := g_if hf
  refine V_iast (Y := m_X10_step) (pc := 16) sM_1 hi1 dX10_step_16 ?_
  refine V_aload_n (Y := m_X10_step) (pc := 17) 0 dX10_step_17 rfl ?_
  refine V_grL (Y := m_X10_step) (pc := 18) (x := 1) 0 kX10 sM_0 (by decide +kernel) rfl rfl tw_1070 dX10_step_18 ?_
  refine V_aload_n (Y := m_X10_step) (pc := 21) 0 dX10_step_21 rfl ?_
  refine V_gi (Y := m_X10_step) (pc := 22) 22 kX10 sM_0 (by decide +kernel) rfl tw_1092 dX10_step_22 ?_
  refine V_iconst (Y := m_X10_step) (pc := 25) (x := (2 : Int32)) dX10_step_25 (by decide +kernel) ?_
  refine V_aload_n (Y := m_X10_step) (pc := 26) 0 dX10_step_26 rfl ?_
  refine V_gi (Y := m_X10_step) (pc := 27) 21 kX10 sM_0 (by decide +kernel) rfl tw_1091 dX10_step_27 ?_
  refine V_imul (Y := m_X10_step) (pc := 30) dX10_step_30 ?_
  refine V_iadd (Y := m_X10_step) (pc := 31) dX10_step_31 ?_
  refine V_iconst (Y := m_X10_step) (pc := 32) (x := (1 : Int32)) dX10_step_32 (by decide +kernel) ?_
  refine V_iadd (Y := m_X10_step) (pc := 33) dX10_step_33 ?_
  exact V_sub [0, 2] rfl (ok_X10_step_bc34_1  x2 ((((mset M 1 (ix ((M 0 22) + ((2 : Int32) * (M 0 21)))) x1) 0 22) + ((2 : Int32) * ((mset M 1 (ix ((M 0 22) + ((2 : Int32) * (M 0 21)))) x1) 0 21))) + (1 : Int32)) (mset M 1 (ix ((M 0 22) + ((2 : Int32) * (M 0 21)))) x1) z  hf)
def f_X10_step (x1 : Int32) (x2 : Int32) (M : Mem) : Option (Int32 × Mem) := f_X10_step_b0 x1 x2 M
set_option maxRecDepth 20000 in
set_option maxHeartbeats 4000000 in
theorem ok_X10_step {l : Launch} {g : Gam} {b : Nat} : ∀ (x1 : Int32) (x2 : Int32) (M : Mem) (z : Int32 × Mem), f_X10_step x1 x2 M = some z → Cn l g (wM b) m_X10_step [.ref (b + 0), .int x1, .int x2] M none z.2 := fun x1 x2 M z  hf => Cn_of (by decide +kernel) (Nat.le_of_ble_eq_true rfl) (V_sub [0, 1, 2] rfl (ok_X10_step_b0 x1 x2 M z  hf))

abbrev m_X10_both (n : Nat) : Mth := (yX10_both, cX10_both, 2, some .boolean, 4 + n)
theorem yf_X10_both (n : Nat) : YF (m_X10_both n) 1 := ⟨tw_1369, tw_75, (show yX10_both.cls ≠ "java/lang/invoke/MethodHandle" ∧ yX10_both.cls ≠ "java/lang/invoke/VarHandle" ∧ (parseMethodDescriptor yX10_both.desc).map (fun d => d.parameters.length) = some 1 by decide +kernel), Nat.le_of_ble_eq_true rfl⟩
abbrev m_X10_either (n : Nat) : Mth := (yX10_either, cX10_either, 2, some .boolean, 4 + n)
theorem yf_X10_either (n : Nat) : YF (m_X10_either n) 1 := ⟨tw_1365, tw_75, (show yX10_either.cls ≠ "java/lang/invoke/MethodHandle" ∧ yX10_either.cls ≠ "java/lang/invoke/VarHandle" ∧ (parseMethodDescriptor yX10_either.desc).map (fun d => d.parameters.length) = some 1 by decide +kernel), Nat.le_of_ble_eq_true rfl⟩
abbrev m_X10_part0 (n : Nat) : Mth := (yX10_part0, cX10_part0, 2, some .boolean, 4 + n)
theorem yf_X10_part0 (n : Nat) : YF (m_X10_part0 n) 1 := ⟨tw_1385, tw_75, (show yX10_part0.cls ≠ "java/lang/invoke/MethodHandle" ∧ yX10_part0.cls ≠ "java/lang/invoke/VarHandle" ∧ (parseMethodDescriptor yX10_part0.desc).map (fun d => d.parameters.length) = some 1 by decide +kernel), Nat.le_of_ble_eq_true rfl⟩
abbrev m_X10_sum (n : Nat) : Mth := (yX10_sum, cX10_sum, 3, some .boolean, 4 + n)
theorem yf_X10_sum (n : Nat) : YF (m_X10_sum n) 1 := ⟨tw_1377, tw_75, (show yX10_sum.cls ≠ "java/lang/invoke/MethodHandle" ∧ yX10_sum.cls ≠ "java/lang/invoke/VarHandle" ∧ (parseMethodDescriptor yX10_sum.desc).map (fun d => d.parameters.length) = some 1 by decide +kernel), Nat.le_of_ble_eq_true rfl⟩
abbrev m_X10_term (n : Nat) : Mth := (yX10_term, cX10_term, 3, some .boolean, 4 + n)
theorem yf_X10_term (n : Nat) : YF (m_X10_term n) 1 := ⟨tw_1381, tw_75, (show yX10_term.cls ≠ "java/lang/invoke/MethodHandle" ∧ yX10_term.cls ≠ "java/lang/invoke/VarHandle" ∧ (parseMethodDescriptor yX10_term.desc).map (fun d => d.parameters.length) = some 1 by decide +kernel), Nat.le_of_ble_eq_true rfl⟩
abbrev m_X10_test (n : Nat) : Mth := (yX10_test, cX10_test, 3, some .boolean, 4 + n)
theorem yf_X10_test (n : Nat) : YF (m_X10_test n) 1 := ⟨tw_1373, tw_75, (show yX10_test.cls ≠ "java/lang/invoke/MethodHandle" ∧ yX10_test.cls ≠ "java/lang/invoke/VarHandle" ∧ (parseMethodDescriptor yX10_test.desc).map (fun d => d.parameters.length) = some 1 by decide +kernel), Nat.le_of_ble_eq_true rfl⟩
def f_X10_both_b10 (rc_X10_test : Int32 → Mem → Option (Int32 × Mem))  : Nat → Int32 → Mem → Option (Int32 × Mem)
  | 0, _, _ => none
  | n + 1, x1, M =>
    (f_X10_isSign (38 : Int32) M).bind fun q1 =>
    if q1.1 = 0 then
      some ((1 : Int32), q1.2)
    else
      (f_X10_goesOn  q1.2).bind fun q2 =>
      (rc_X10_test x1 q2.2).bind fun q3 =>
      if q3.1 = 0 then
        some ((0 : Int32), q3.2)
      else
        (f_X10_step (2 : Int32) (38 : Int32) q3.2).bind fun q4 =>
        f_X10_both_b10 rc_X10_test n x1 q4.2
set_option maxRecDepth 20000 in
set_option maxHeartbeats 4000000 in
theorem ok_X10_both_b10 {l : Launch} {g : Gam} {b : Nat} (rc_X10_test : Int32 → Mem → Option (Int32 × Mem)) {dn : Nat} (hrc_X10_test : ∀ (x1 : Int32) (M : Mem) (z : Int32 × Mem), rc_X10_test x1 M = some z → Cn l g (wM b) (m_X10_test dn) [.ref (b + 0), .int x1] M (some (.int z.1)) z.2)   : ∀ (n : Nat) (x1 : Int32) (M : Mem) (z : Int32 × Mem), f_X10_both_b10 rc_X10_test n x1 M = some z → V l g (wM b) (m_X10_both (dn + 1)) 10 [(0, .ref (b + 0)), (1, .int x1)] [] M (some (.int z.1)) z.2 := by
  intro n
  induction n with
  | zero =>
    intro x1 M z  hf
    cases hf
  | succ n ih =>
    intro x1 M z  hf
    rw [f_X10_both_b10] at hf
    refine V_aload_n (Y := (m_X10_both (dn + 1))) (pc := 10) 0 dX10_both_10 rfl ?_
    refine V_bipush (Y := (m_X10_both (dn + 1))) (pc := 11) (x := (38 : Int32)) dX10_both_11 (by decide +kernel) ?_
    obtain ⟨q1, hq1, hf⟩ := g_bind hf
    refine V_cVi (Y := (m_X10_both (dn + 1))) (pc := 13) (As := [.int (38 : Int32)]) yf_X10_isSign kX10 sM_0 (by show 1 < 4 + (dn + 1); omega) (ok_X10_isSign (38 : Int32) M _  hq1) tw_1395 tw_45 tw_1393 rfl rfl (Nat.le_of_ble_eq_true rfl) dX10_both_13 ?_
    refine V_if_eq (Y := (m_X10_both (dn + 1))) (pc := 16) (tgt := 43) dX10_both_16 (by decide +kernel) hf (fun hf => ?_) (fun hf => ?_)
    · refine V_iconst (Y := (m_X10_both (dn + 1))) (pc := 43) (x := (1 : Int32)) dX10_both_43 (by decide +kernel) ?_
      obtain rfl := Option.some.inj hf
      exact V_zret (Y := (m_X10_both (dn + 1))) z01_1 rfl dX10_both_44
    · refine V_aload_n (Y := (m_X10_both (dn + 1))) (pc := 19) 0 dX10_both_19 rfl ?_
      obtain ⟨q2, hq2, hf⟩ := g_bind hf
      refine V_cVv (Y := (m_X10_both (dn + 1))) (pc := 20) (As := []) yf_X10_goesOn kX10 sM_0 (by show 3 < 4 + (dn + 1); omega) (ok_X10_goesOn  q1.2 _  hq2) tw_1336 tw_32 tw_1334 rfl rfl (Nat.le_of_ble_eq_true rfl) dX10_both_20 ?_
      refine V_aload_n (Y := (m_X10_both (dn + 1))) (pc := 23) 0 dX10_both_23 rfl ?_
      refine V_iload_n (Y := (m_X10_both (dn + 1))) (pc := 24) 1 dX10_both_24 rfl ?_
      obtain ⟨q3, hq3, hf⟩ := g_bind hf
      refine V_cVi (Y := (m_X10_both (dn + 1))) (pc := 25) (As := [.int x1]) (yf_X10_test dn) kX10 sM_0 (by show 4 + dn < 4 + (dn + 1); omega) (hrc_X10_test x1 q2.2 _  hq3) tw_1372 tw_40 tw_1370 rfl rfl (Nat.le_of_ble_eq_true rfl) dX10_both_25 ?_
      refine V_if_ne (Y := (m_X10_both (dn + 1))) (pc := 28) (tgt := 33) dX10_both_28 (by decide +kernel) hf (fun hf => ?_) (fun hf => ?_)
      · refine V_aload_n (Y := (m_X10_both (dn + 1))) (pc := 33) 0 dX10_both_33 rfl ?_
        refine V_iconst (Y := (m_X10_both (dn + 1))) (pc := 34) (x := (2 : Int32)) dX10_both_34 (by decide +kernel) ?_
        refine V_bipush (Y := (m_X10_both (dn + 1))) (pc := 35) (x := (38 : Int32)) dX10_both_35 (by decide +kernel) ?_
        obtain ⟨q4, hq4, hf⟩ := g_bind hf
        refine V_cVv (Y := (m_X10_both (dn + 1))) (pc := 37) (As := [.int (2 : Int32), .int (38 : Int32)]) yf_X10_step kX10 sM_0 (by show 1 < 4 + (dn + 1); omega) (ok_X10_step (2 : Int32) (38 : Int32) q3.2 _  hq4) tw_1388 tw_44 tw_1386 rfl rfl (Nat.le_of_ble_eq_true rfl) dX10_both_37 ?_
        refine V_goto (Y := (m_X10_both (dn + 1))) (pc := 40) (tgt := 10) dX10_both_40 (by decide +kernel) ?_
        exact V_sub [0, 1] rfl (ih x1 q4.2 z  hf)
      · refine V_iconst (Y := (m_X10_both (dn + 1))) (pc := 31) (x := (0 : Int32)) dX10_both_31 (by decide +kernel) ?_
        obtain rfl := Option.some.inj hf
        exact V_zret (Y := (m_X10_both (dn + 1))) z01_0 rfl dX10_both_32
def f_X10_both_b0 (rc_X10_test : Int32 → Mem → Option (Int32 × Mem))  (x1 : Int32) (M : Mem) : Option (Int32 × Mem) :=
  (rc_X10_test x1 M).bind fun q1 =>
  if q1.1 = 0 then
    some ((0 : Int32), q1.2)
  else
    f_X10_both_b10 rc_X10_test FU x1 q1.2
set_option maxRecDepth 20000 in
set_option maxHeartbeats 4000000 in
theorem ok_X10_both_b0 {l : Launch} {g : Gam} {b : Nat} (rc_X10_test : Int32 → Mem → Option (Int32 × Mem)) {dn : Nat} (hrc_X10_test : ∀ (x1 : Int32) (M : Mem) (z : Int32 × Mem), rc_X10_test x1 M = some z → Cn l g (wM b) (m_X10_test dn) [.ref (b + 0), .int x1] M (some (.int z.1)) z.2)   (x1 : Int32) (M : Mem) (z : Int32 × Mem)  (hf : f_X10_both_b0 rc_X10_test x1 M = some z) : V l g (wM b) (m_X10_both (dn + 1)) 0 [(0, .ref (b + 0)), (1, .int x1)] [] M (some (.int z.1)) z.2 := by
  unfold f_X10_both_b0 at hf
  refine V_aload_n (Y := (m_X10_both (dn + 1))) (pc := 0) 0 dX10_both_0 rfl ?_
  refine V_iload_n (Y := (m_X10_both (dn + 1))) (pc := 1) 1 dX10_both_1 rfl ?_
  obtain ⟨q1, hq1, hf⟩ := g_bind hf
  refine V_cVi (Y := (m_X10_both (dn + 1))) (pc := 2) (As := [.int x1]) (yf_X10_test dn) kX10 sM_0 (by show 4 + dn < 4 + (dn + 1); omega) (hrc_X10_test x1 M _  hq1) tw_1372 tw_40 tw_1370 rfl rfl (Nat.le_of_ble_eq_true rfl) dX10_both_2 ?_
  refine V_if_ne (Y := (m_X10_both (dn + 1))) (pc := 5) (tgt := 10) dX10_both_5 (by decide +kernel) hf (fun hf => ?_) (fun hf => ?_)
  · exact V_sub [0, 1] rfl (ok_X10_both_b10 rc_X10_test hrc_X10_test FU x1 q1.2 z  hf)
  · refine V_iconst (Y := (m_X10_both (dn + 1))) (pc := 8) (x := (0 : Int32)) dX10_both_8 (by decide +kernel) ?_
    obtain rfl := Option.some.inj hf
    exact V_zret (Y := (m_X10_both (dn + 1))) z01_0 rfl dX10_both_9
def f_X10_either_b10 (rc_X10_both : Int32 → Mem → Option (Int32 × Mem))  : Nat → Int32 → Mem → Option (Int32 × Mem)
  | 0, _, _ => none
  | n + 1, x1, M =>
    (f_X10_isSign (124 : Int32) M).bind fun q1 =>
    if q1.1 = 0 then
      some ((1 : Int32), q1.2)
    else
      (f_X10_goesOn  q1.2).bind fun q2 =>
      (rc_X10_both x1 q2.2).bind fun q3 =>
      if q3.1 = 0 then
        some ((0 : Int32), q3.2)
      else
        (f_X10_step (2 : Int32) (124 : Int32) q3.2).bind fun q4 =>
        f_X10_either_b10 rc_X10_both n x1 q4.2
set_option maxRecDepth 20000 in
set_option maxHeartbeats 4000000 in
theorem ok_X10_either_b10 {l : Launch} {g : Gam} {b : Nat} (rc_X10_both : Int32 → Mem → Option (Int32 × Mem)) {dn : Nat} (hrc_X10_both : ∀ (x1 : Int32) (M : Mem) (z : Int32 × Mem), rc_X10_both x1 M = some z → Cn l g (wM b) (m_X10_both dn) [.ref (b + 0), .int x1] M (some (.int z.1)) z.2)   : ∀ (n : Nat) (x1 : Int32) (M : Mem) (z : Int32 × Mem), f_X10_either_b10 rc_X10_both n x1 M = some z → V l g (wM b) (m_X10_either (dn + 1)) 10 [(0, .ref (b + 0)), (1, .int x1)] [] M (some (.int z.1)) z.2 := by
  intro n
  induction n with
  | zero =>
    intro x1 M z  hf
    cases hf
  | succ n ih =>
    intro x1 M z  hf
    rw [f_X10_either_b10] at hf
    refine V_aload_n (Y := (m_X10_either (dn + 1))) (pc := 10) 0 dX10_either_10 rfl ?_
    refine V_bipush (Y := (m_X10_either (dn + 1))) (pc := 11) (x := (124 : Int32)) dX10_either_11 (by decide +kernel) ?_
    obtain ⟨q1, hq1, hf⟩ := g_bind hf
    refine V_cVi (Y := (m_X10_either (dn + 1))) (pc := 13) (As := [.int (124 : Int32)]) yf_X10_isSign kX10 sM_0 (by show 1 < 4 + (dn + 1); omega) (ok_X10_isSign (124 : Int32) M _  hq1) tw_1395 tw_45 tw_1393 rfl rfl (Nat.le_of_ble_eq_true rfl) dX10_either_13 ?_
    refine V_if_eq (Y := (m_X10_either (dn + 1))) (pc := 16) (tgt := 43) dX10_either_16 (by decide +kernel) hf (fun hf => ?_) (fun hf => ?_)
    · refine V_iconst (Y := (m_X10_either (dn + 1))) (pc := 43) (x := (1 : Int32)) dX10_either_43 (by decide +kernel) ?_
      obtain rfl := Option.some.inj hf
      exact V_zret (Y := (m_X10_either (dn + 1))) z01_1 rfl dX10_either_44
    · refine V_aload_n (Y := (m_X10_either (dn + 1))) (pc := 19) 0 dX10_either_19 rfl ?_
      obtain ⟨q2, hq2, hf⟩ := g_bind hf
      refine V_cVv (Y := (m_X10_either (dn + 1))) (pc := 20) (As := []) yf_X10_goesOn kX10 sM_0 (by show 3 < 4 + (dn + 1); omega) (ok_X10_goesOn  q1.2 _  hq2) tw_1336 tw_32 tw_1334 rfl rfl (Nat.le_of_ble_eq_true rfl) dX10_either_20 ?_
      refine V_aload_n (Y := (m_X10_either (dn + 1))) (pc := 23) 0 dX10_either_23 rfl ?_
      refine V_iload_n (Y := (m_X10_either (dn + 1))) (pc := 24) 1 dX10_either_24 rfl ?_
      obtain ⟨q3, hq3, hf⟩ := g_bind hf
      refine V_cVi (Y := (m_X10_either (dn + 1))) (pc := 25) (As := [.int x1]) (yf_X10_both dn) kX10 sM_0 (by show 4 + dn < 4 + (dn + 1); omega) (hrc_X10_both x1 q2.2 _  hq3) tw_1368 tw_39 tw_1366 rfl rfl (Nat.le_of_ble_eq_true rfl) dX10_either_25 ?_
      refine V_if_ne (Y := (m_X10_either (dn + 1))) (pc := 28) (tgt := 33) dX10_either_28 (by decide +kernel) hf (fun hf => ?_) (fun hf => ?_)
      · refine V_aload_n (Y := (m_X10_either (dn + 1))) (pc := 33) 0 dX10_either_33 rfl ?_
        refine V_iconst (Y := (m_X10_either (dn + 1))) (pc := 34) (x := (2 : Int32)) dX10_either_34 (by decide +kernel) ?_
        refine V_bipush (Y := (m_X10_either (dn + 1))) (pc := 35) (x := (124 : Int32)) dX10_either_35 (by decide +kernel) ?_
        obtain ⟨q4, hq4, hf⟩ := g_bind hf
        refine V_cVv (Y := (m_X10_either (dn + 1))) (pc := 37) (As := [.int (2 : Int32), .int (124 : Int32)]) yf_X10_step kX10 sM_0 (by show 1 < 4 + (dn + 1); omega) (ok_X10_step (2 : Int32) (124 : Int32) q3.2 _  hq4) tw_1388 tw_44 tw_1386 rfl rfl (Nat.le_of_ble_eq_true rfl) dX10_either_37 ?_
        refine V_goto (Y := (m_X10_either (dn + 1))) (pc := 40) (tgt := 10) dX10_either_40 (by decide +kernel) ?_
        exact V_sub [0, 1] rfl (ih x1 q4.2 z  hf)
      · refine V_iconst (Y := (m_X10_either (dn + 1))) (pc := 31) (x := (0 : Int32)) dX10_either_31 (by decide +kernel) ?_
        obtain rfl := Option.some.inj hf
        exact V_zret (Y := (m_X10_either (dn + 1))) z01_0 rfl dX10_either_32
def f_X10_either_b0 (rc_X10_both : Int32 → Mem → Option (Int32 × Mem))  (x1 : Int32) (M : Mem) : Option (Int32 × Mem) :=
  (rc_X10_both x1 M).bind fun q1 =>
  if q1.1 = 0 then
    some ((0 : Int32), q1.2)
  else
    f_X10_either_b10 rc_X10_both FU x1 q1.2
set_option maxRecDepth 20000 in
set_option maxHeartbeats 4000000 in
theorem ok_X10_either_b0 {l : Launch} {g : Gam} {b : Nat} (rc_X10_both : Int32 → Mem → Option (Int32 × Mem)) {dn : Nat} (hrc_X10_both : ∀ (x1 : Int32) (M : Mem) (z : Int32 × Mem), rc_X10_both x1 M = some z → Cn l g (wM b) (m_X10_both dn) [.ref (b + 0), .int x1] M (some (.int z.1)) z.2)   (x1 : Int32) (M : Mem) (z : Int32 × Mem)  (hf : f_X10_either_b0 rc_X10_both x1 M = some z) : V l g (wM b) (m_X10_either (dn + 1)) 0 [(0, .ref (b + 0)), (1, .int x1)] [] M (some (.int z.1)) z.2 := by
  unfold f_X10_either_b0 at hf
  refine V_aload_n (Y := (m_X10_either (dn + 1))) (pc := 0) 0 dX10_either_0 rfl ?_
  refine V_iload_n (Y := (m_X10_either (dn + 1))) (pc := 1) 1 dX10_either_1 rfl ?_
  obtain ⟨q1, hq1, hf⟩ := g_bind hf
  refine V_cVi (Y := (m_X10_either (dn + 1))) (pc := 2) (As := [.int x1]) (yf_X10_both dn) kX10 sM_0 (by show 4 + dn < 4 + (dn + 1); omega) (hrc_X10_both x1 M _  hq1) tw_1368 tw_39 tw_1366 rfl rfl (Nat.le_of_ble_eq_true rfl) dX10_either_2 ?_
  refine V_if_ne (Y := (m_X10_either (dn + 1))) (pc := 5) (tgt := 10) dX10_either_5 (by decide +kernel) hf (fun hf => ?_) (fun hf => ?_)
  · exact V_sub [0, 1] rfl (ok_X10_either_b10 rc_X10_both hrc_X10_both FU x1 q1.2 z  hf)
  · refine V_iconst (Y := (m_X10_either (dn + 1))) (pc := 8) (x := (0 : Int32)) dX10_either_8 (by decide +kernel) ?_
    obtain rfl := Option.some.inj hf
    exact V_zret (Y := (m_X10_either (dn + 1))) z01_0 rfl dX10_either_9
def f_X10_part0_b145 (rc_X10_either : Int32 → Mem → Option (Int32 × Mem)) (rc_X10_part0 : Int32 → Mem → Option (Int32 × Mem))  (x1 : Int32) (M : Mem) : Option (Int32 × Mem) :=
  (f_X10_isSign (40 : Int32) M).bind fun q1 =>
  if q1.1 = 0 then
    some ((0 : Int32), q1.2)
  else
    if (q1.2 0 19) = (8 : Int32) then
      some ((0 : Int32), q1.2)
    else
      (f_X10_goesOn  (mset q1.2 0 19 ((q1.2 0 19) + (1 : Int32)))).bind fun q2 =>
      (rc_X10_either x1 q2.2).bind fun q3 =>
      if q3.1 = 0 then
        some ((0 : Int32), q3.2)
      else
        (f_X10_isSign (41 : Int32) q3.2).bind fun q4 =>
        if q4.1 = 0 then
          some ((0 : Int32), q4.2)
        else
          (f_X10_goesOn  (mset q4.2 0 19 ((q4.2 0 19) - (1 : Int32)))).bind fun q5 =>
          some ((1 : Int32), q5.2)
set_option maxRecDepth 20000 in
set_option maxHeartbeats 4000000 in
theorem ok_X10_part0_b145 {l : Launch} {g : Gam} {b : Nat} (rc_X10_either : Int32 → Mem → Option (Int32 × Mem)) (rc_X10_part0 : Int32 → Mem → Option (Int32 × Mem)) {dn : Nat} (hrc_X10_either : ∀ (x1 : Int32) (M : Mem) (z : Int32 × Mem), rc_X10_either x1 M = some z → Cn l g (wM b) (m_X10_either dn) [.ref (b + 0), .int x1] M (some (.int z.1)) z.2) (hrc_X10_part0 : ∀ (x1 : Int32) (M : Mem) (z : Int32 × Mem), rc_X10_part0 x1 M = some z → Cn l g (wM b) (m_X10_part0 dn) [.ref (b + 0), .int x1] M (some (.int z.1)) z.2)   (x1 : Int32) (M : Mem) (z : Int32 × Mem)  (hf : f_X10_part0_b145 rc_X10_either rc_X10_part0 x1 M = some z) : V l g (wM b) (m_X10_part0 (dn + 1)) 145 [(0, .ref (b + 0)), (1, .int x1)] [] M (some (.int z.1)) z.2 := by
  unfold f_X10_part0_b145 at hf
  refine V_aload_n (Y := (m_X10_part0 (dn + 1))) (pc := 145) 0 dX10_part0_145 rfl ?_
  refine V_bipush (Y := (m_X10_part0 (dn + 1))) (pc := 146) (x := (40 : Int32)) dX10_part0_146 (by decide +kernel) ?_
  obtain ⟨q1, hq1, hf⟩ := g_bind hf
  refine V_cVi (Y := (m_X10_part0 (dn + 1))) (pc := 148) (As := [.int (40 : Int32)]) yf_X10_isSign kX10 sM_0 (by show 1 < 4 + (dn + 1); omega) (ok_X10_isSign (40 : Int32) M _  hq1) tw_1395 tw_45 tw_1393 rfl rfl (Nat.le_of_ble_eq_true rfl) dX10_part0_148 ?_
  refine V_if_eq (Y := (m_X10_part0 (dn + 1))) (pc := 151) (tgt := 163) dX10_part0_151 (by decide +kernel) hf (fun hf => ?_) (fun hf => ?_)
  · refine V_iconst (Y := (m_X10_part0 (dn + 1))) (pc := 163) (x := (0 : Int32)) dX10_part0_163 (by decide +kernel) ?_
    obtain rfl := Option.some.inj hf
    exact V_zret (Y := (m_X10_part0 (dn + 1))) z01_0 rfl dX10_part0_164
  · refine V_aload_n (Y := (m_X10_part0 (dn + 1))) (pc := 154) 0 dX10_part0_154 rfl ?_
    refine V_gi (Y := (m_X10_part0 (dn + 1))) (pc := 155) 19 kX10 sM_0 (by decide +kernel) rfl tw_1089 dX10_part0_155 ?_
    refine V_bipush (Y := (m_X10_part0 (dn + 1))) (pc := 158) (x := (8 : Int32)) dX10_part0_158 (by decide +kernel) ?_
    refine V_icmp_ne (Y := (m_X10_part0 (dn + 1))) (pc := 160) (tgt := 165) dX10_part0_160 (by decide +kernel) hf (fun hf => ?_) (fun hf => ?_)
    · refine V_aload_n (Y := (m_X10_part0 (dn + 1))) (pc := 165) 0 dX10_part0_165 rfl ?_
      refine V_dup (Y := (m_X10_part0 (dn + 1))) (pc := 166) dX10_part0_166 rfl ?_
      refine V_gi (Y := (m_X10_part0 (dn + 1))) (pc := 167) 19 kX10 sM_0 (by decide +kernel) rfl tw_1089 dX10_part0_167 ?_
      refine V_iconst (Y := (m_X10_part0 (dn + 1))) (pc := 170) (x := (1 : Int32)) dX10_part0_170 (by decide +kernel) ?_
      refine V_iadd (Y := (m_X10_part0 (dn + 1))) (pc := 171) dX10_part0_171 ?_
      refine V_pi (Y := (m_X10_part0 (dn + 1))) (pc := 172) 19 kX10 sM_0 (by decide +kernel) rfl rfl rfl tw_1089 dX10_part0_172 ?_
      refine V_aload_n (Y := (m_X10_part0 (dn + 1))) (pc := 175) 0 dX10_part0_175 rfl ?_
      obtain ⟨q2, hq2, hf⟩ := g_bind hf
      refine V_cVv (Y := (m_X10_part0 (dn + 1))) (pc := 176) (As := []) yf_X10_goesOn kX10 sM_0 (by show 3 < 4 + (dn + 1); omega) (ok_X10_goesOn  (mset q1.2 0 19 ((q1.2 0 19) + (1 : Int32))) _  hq2) tw_1336 tw_32 tw_1334 rfl rfl (Nat.le_of_ble_eq_true rfl) dX10_part0_176 ?_
      refine V_aload_n (Y := (m_X10_part0 (dn + 1))) (pc := 179) 0 dX10_part0_179 rfl ?_
      refine V_iload_n (Y := (m_X10_part0 (dn + 1))) (pc := 180) 1 dX10_part0_180 rfl ?_
      obtain ⟨q3, hq3, hf⟩ := g_bind hf
      refine V_cVi (Y := (m_X10_part0 (dn + 1))) (pc := 181) (As := [.int x1]) (yf_X10_either dn) kX10 sM_0 (by show 4 + dn < 4 + (dn + 1); omega) (hrc_X10_either x1 q2.2 _  hq3) tw_1364 tw_38 tw_1362 rfl rfl (Nat.le_of_ble_eq_true rfl) dX10_part0_181 ?_
      refine V_if_eq (Y := (m_X10_part0 (dn + 1))) (pc := 184) (tgt := 196) dX10_part0_184 (by decide +kernel) hf (fun hf => ?_) (fun hf => ?_)
      · refine V_iconst (Y := (m_X10_part0 (dn + 1))) (pc := 196) (x := (0 : Int32)) dX10_part0_196 (by decide +kernel) ?_
        obtain rfl := Option.some.inj hf
        exact V_zret (Y := (m_X10_part0 (dn + 1))) z01_0 rfl dX10_part0_197
      · refine V_aload_n (Y := (m_X10_part0 (dn + 1))) (pc := 187) 0 dX10_part0_187 rfl ?_
        refine V_bipush (Y := (m_X10_part0 (dn + 1))) (pc := 188) (x := (41 : Int32)) dX10_part0_188 (by decide +kernel) ?_
        obtain ⟨q4, hq4, hf⟩ := g_bind hf
        refine V_cVi (Y := (m_X10_part0 (dn + 1))) (pc := 190) (As := [.int (41 : Int32)]) yf_X10_isSign kX10 sM_0 (by show 1 < 4 + (dn + 1); omega) (ok_X10_isSign (41 : Int32) q3.2 _  hq4) tw_1395 tw_45 tw_1393 rfl rfl (Nat.le_of_ble_eq_true rfl) dX10_part0_190 ?_
        refine V_if_ne (Y := (m_X10_part0 (dn + 1))) (pc := 193) (tgt := 198) dX10_part0_193 (by decide +kernel) hf (fun hf => ?_) (fun hf => ?_)
        · refine V_aload_n (Y := (m_X10_part0 (dn + 1))) (pc := 198) 0 dX10_part0_198 rfl ?_
          refine V_dup (Y := (m_X10_part0 (dn + 1))) (pc := 199) dX10_part0_199 rfl ?_
          refine V_gi (Y := (m_X10_part0 (dn + 1))) (pc := 200) 19 kX10 sM_0 (by decide +kernel) rfl tw_1089 dX10_part0_200 ?_
          refine V_iconst (Y := (m_X10_part0 (dn + 1))) (pc := 203) (x := (1 : Int32)) dX10_part0_203 (by decide +kernel) ?_
          refine V_isub (Y := (m_X10_part0 (dn + 1))) (pc := 204) dX10_part0_204 ?_
          refine V_pi (Y := (m_X10_part0 (dn + 1))) (pc := 205) 19 kX10 sM_0 (by decide +kernel) rfl rfl rfl tw_1089 dX10_part0_205 ?_
          refine V_aload_n (Y := (m_X10_part0 (dn + 1))) (pc := 208) 0 dX10_part0_208 rfl ?_
          obtain ⟨q5, hq5, hf⟩ := g_bind hf
          refine V_cVv (Y := (m_X10_part0 (dn + 1))) (pc := 209) (As := []) yf_X10_goesOn kX10 sM_0 (by show 3 < 4 + (dn + 1); omega) (ok_X10_goesOn  (mset q4.2 0 19 ((q4.2 0 19) - (1 : Int32))) _  hq5) tw_1336 tw_32 tw_1334 rfl rfl (Nat.le_of_ble_eq_true rfl) dX10_part0_209 ?_
          refine V_iconst (Y := (m_X10_part0 (dn + 1))) (pc := 212) (x := (1 : Int32)) dX10_part0_212 (by decide +kernel) ?_
          obtain rfl := Option.some.inj hf
          exact V_zret (Y := (m_X10_part0 (dn + 1))) z01_1 rfl dX10_part0_213
        · refine V_iconst (Y := (m_X10_part0 (dn + 1))) (pc := 196) (x := (0 : Int32)) dX10_part0_196 (by decide +kernel) ?_
          obtain rfl := Option.some.inj hf
          exact V_zret (Y := (m_X10_part0 (dn + 1))) z01_0 rfl dX10_part0_197
    · refine V_iconst (Y := (m_X10_part0 (dn + 1))) (pc := 163) (x := (0 : Int32)) dX10_part0_163 (by decide +kernel) ?_
      obtain rfl := Option.some.inj hf
      exact V_zret (Y := (m_X10_part0 (dn + 1))) z01_0 rfl dX10_part0_164
def f_X10_part0_b84 (rc_X10_either : Int32 → Mem → Option (Int32 × Mem)) (rc_X10_part0 : Int32 → Mem → Option (Int32 × Mem))  (x1 : Int32) (M : Mem) : Option (Int32 × Mem) :=
  (f_X10_isSign (33 : Int32) M).bind fun q1 =>
  if q1.1 = 0 then
    f_X10_part0_b145 rc_X10_either rc_X10_part0 x1 q1.2
  else
    if (8 : Int32) ≤ (q1.2 0 20) then
      f_X10_part0_b145 rc_X10_either rc_X10_part0 x1 q1.2
    else
      (f_X10_goesOn  (mset q1.2 0 20 ((q1.2 0 20) + (1 : Int32)))).bind fun q2 =>
      (rc_X10_part0 x1 q2.2).bind fun q3 =>
      if q3.1 = 0 then
        some ((0 : Int32), q3.2)
      else
        (f_X10_step (2 : Int32) (33 : Int32) (mset q3.2 0 20 ((q3.2 0 20) - (1 : Int32)))).bind fun q4 =>
        some ((1 : Int32), q4.2)
set_option maxRecDepth 20000 in
set_option maxHeartbeats 4000000 in
theorem ok_X10_part0_b84 {l : Launch} {g : Gam} {b : Nat} (rc_X10_either : Int32 → Mem → Option (Int32 × Mem)) (rc_X10_part0 : Int32 → Mem → Option (Int32 × Mem)) {dn : Nat} (hrc_X10_either : ∀ (x1 : Int32) (M : Mem) (z : Int32 × Mem), rc_X10_either x1 M = some z → Cn l g (wM b) (m_X10_either dn) [.ref (b + 0), .int x1] M (some (.int z.1)) z.2) (hrc_X10_part0 : ∀ (x1 : Int32) (M : Mem) (z : Int32 × Mem), rc_X10_part0 x1 M = some z → Cn l g (wM b) (m_X10_part0 dn) [.ref (b + 0), .int x1] M (some (.int z.1)) z.2)   (x1 : Int32) (M : Mem) (z : Int32 × Mem)  (hf : f_X10_part0_b84 rc_X10_either rc_X10_part0 x1 M = some z) : V l g (wM b) (m_X10_part0 (dn + 1)) 84 [(0, .ref (b + 0)), (1, .int x1)] [] M (some (.int z.1)) z.2 := by
  unfold f_X10_part0_b84 at hf
  refine V_aload_n (Y := (m_X10_part0 (dn + 1))) (pc := 84) 0 dX10_part0_84 rfl ?_
  refine V_bipush (Y := (m_X10_part0 (dn + 1))) (pc := 85) (x := (33 : Int32)) dX10_part0_85 (by decide +kernel) ?_
  obtain ⟨q1, hq1, hf⟩ := g_bind hf
  refine V_cVi (Y := (m_X10_part0 (dn + 1))) (pc := 87) (As := [.int (33 : Int32)]) yf_X10_isSign kX10 sM_0 (by show 1 < 4 + (dn + 1); omega) (ok_X10_isSign (33 : Int32) M _  hq1) tw_1395 tw_45 tw_1393 rfl rfl (Nat.le_of_ble_eq_true rfl) dX10_part0_87 ?_
  refine V_if_eq (Y := (m_X10_part0 (dn + 1))) (pc := 90) (tgt := 145) dX10_part0_90 (by decide +kernel) hf (fun hf => ?_) (fun hf => ?_)
  · exact V_sub [0, 1] rfl (ok_X10_part0_b145 rc_X10_either rc_X10_part0 hrc_X10_either hrc_X10_part0 x1 q1.2 z  hf)
  · refine V_aload_n (Y := (m_X10_part0 (dn + 1))) (pc := 93) 0 dX10_part0_93 rfl ?_
    refine V_gi (Y := (m_X10_part0 (dn + 1))) (pc := 94) 20 kX10 sM_0 (by decide +kernel) rfl tw_1090 dX10_part0_94 ?_
    refine V_bipush (Y := (m_X10_part0 (dn + 1))) (pc := 97) (x := (8 : Int32)) dX10_part0_97 (by decide +kernel) ?_
    refine V_icmp_ge (Y := (m_X10_part0 (dn + 1))) (pc := 99) (tgt := 145) dX10_part0_99 (by decide +kernel) hf (fun hf => ?_) (fun hf => ?_)
    · exact V_sub [0, 1] rfl (ok_X10_part0_b145 rc_X10_either rc_X10_part0 hrc_X10_either hrc_X10_part0 x1 q1.2 z  hf)
    · refine V_aload_n (Y := (m_X10_part0 (dn + 1))) (pc := 102) 0 dX10_part0_102 rfl ?_
      refine V_dup (Y := (m_X10_part0 (dn + 1))) (pc := 103) dX10_part0_103 rfl ?_
      refine V_gi (Y := (m_X10_part0 (dn + 1))) (pc := 104) 20 kX10 sM_0 (by decide +kernel) rfl tw_1090 dX10_part0_104 ?_
      refine V_iconst (Y := (m_X10_part0 (dn + 1))) (pc := 107) (x := (1 : Int32)) dX10_part0_107 (by decide +kernel) ?_
      refine V_iadd (Y := (m_X10_part0 (dn + 1))) (pc := 108) dX10_part0_108 ?_
      refine V_pi (Y := (m_X10_part0 (dn + 1))) (pc := 109) 20 kX10 sM_0 (by decide +kernel) rfl rfl rfl tw_1090 dX10_part0_109 ?_
      refine V_aload_n (Y := (m_X10_part0 (dn + 1))) (pc := 112) 0 dX10_part0_112 rfl ?_
      obtain ⟨q2, hq2, hf⟩ := g_bind hf
      refine V_cVv (Y := (m_X10_part0 (dn + 1))) (pc := 113) (As := []) yf_X10_goesOn kX10 sM_0 (by show 3 < 4 + (dn + 1); omega) (ok_X10_goesOn  (mset q1.2 0 20 ((q1.2 0 20) + (1 : Int32))) _  hq2) tw_1336 tw_32 tw_1334 rfl rfl (Nat.le_of_ble_eq_true rfl) dX10_part0_113 ?_
      refine V_aload_n (Y := (m_X10_part0 (dn + 1))) (pc := 116) 0 dX10_part0_116 rfl ?_
      refine V_iload_n (Y := (m_X10_part0 (dn + 1))) (pc := 117) 1 dX10_part0_117 rfl ?_
      obtain ⟨q3, hq3, hf⟩ := g_bind hf
      refine V_cVi (Y := (m_X10_part0 (dn + 1))) (pc := 118) (As := [.int x1]) (yf_X10_part0 dn) kX10 sM_0 (by show 4 + dn < 4 + (dn + 1); omega) (hrc_X10_part0 x1 q2.2 _  hq3) tw_1384 tw_43 tw_1382 rfl rfl (Nat.le_of_ble_eq_true rfl) dX10_part0_118 ?_
      refine V_if_ne (Y := (m_X10_part0 (dn + 1))) (pc := 121) (tgt := 126) dX10_part0_121 (by decide +kernel) hf (fun hf => ?_) (fun hf => ?_)
      · refine V_aload_n (Y := (m_X10_part0 (dn + 1))) (pc := 126) 0 dX10_part0_126 rfl ?_
        refine V_dup (Y := (m_X10_part0 (dn + 1))) (pc := 127) dX10_part0_127 rfl ?_
        refine V_gi (Y := (m_X10_part0 (dn + 1))) (pc := 128) 20 kX10 sM_0 (by decide +kernel) rfl tw_1090 dX10_part0_128 ?_
        refine V_iconst (Y := (m_X10_part0 (dn + 1))) (pc := 131) (x := (1 : Int32)) dX10_part0_131 (by decide +kernel) ?_
        refine V_isub (Y := (m_X10_part0 (dn + 1))) (pc := 132) dX10_part0_132 ?_
        refine V_pi (Y := (m_X10_part0 (dn + 1))) (pc := 133) 20 kX10 sM_0 (by decide +kernel) rfl rfl rfl tw_1090 dX10_part0_133 ?_
        refine V_aload_n (Y := (m_X10_part0 (dn + 1))) (pc := 136) 0 dX10_part0_136 rfl ?_
        refine V_iconst (Y := (m_X10_part0 (dn + 1))) (pc := 137) (x := (2 : Int32)) dX10_part0_137 (by decide +kernel) ?_
        refine V_bipush (Y := (m_X10_part0 (dn + 1))) (pc := 138) (x := (33 : Int32)) dX10_part0_138 (by decide +kernel) ?_
        obtain ⟨q4, hq4, hf⟩ := g_bind hf
        refine V_cVv (Y := (m_X10_part0 (dn + 1))) (pc := 140) (As := [.int (2 : Int32), .int (33 : Int32)]) yf_X10_step kX10 sM_0 (by show 1 < 4 + (dn + 1); omega) (ok_X10_step (2 : Int32) (33 : Int32) (mset q3.2 0 20 ((q3.2 0 20) - (1 : Int32))) _  hq4) tw_1388 tw_44 tw_1386 rfl rfl (Nat.le_of_ble_eq_true rfl) dX10_part0_140 ?_
        refine V_iconst (Y := (m_X10_part0 (dn + 1))) (pc := 143) (x := (1 : Int32)) dX10_part0_143 (by decide +kernel) ?_
        obtain rfl := Option.some.inj hf
        exact V_zret (Y := (m_X10_part0 (dn + 1))) z01_1 rfl dX10_part0_144
      · refine V_iconst (Y := (m_X10_part0 (dn + 1))) (pc := 124) (x := (0 : Int32)) dX10_part0_124 (by decide +kernel) ?_
        obtain rfl := Option.some.inj hf
        exact V_zret (Y := (m_X10_part0 (dn + 1))) z01_0 rfl dX10_part0_125
def f_X10_part0_b0 (rc_X10_either : Int32 → Mem → Option (Int32 × Mem)) (rc_X10_part0 : Int32 → Mem → Option (Int32 × Mem))  (x1 : Int32) (M : Mem) : Option (Int32 × Mem) :=
  if (M 0 16) = (2 : Int32) then
    (f_X10_step (0 : Int32) (M 0 17) M).bind fun q4 =>
    (f_X10_goesOn  (mset q4.2 0 23 ((q4.2 0 23) + (1 : Int32)))).bind fun q5 =>
    some ((1 : Int32), q5.2)
  else
    if (M 0 16) = (1 : Int32) then
      if (M 0 18) = 0 then
        f_X10_part0_b84 rc_X10_either rc_X10_part0 x1 M
      else
        (f_X10_isName x1 (M 0 18) M).bind fun q1 =>
        if q1.1 = 0 then
          f_X10_part0_b84 rc_X10_either rc_X10_part0 x1 q1.2
        else
          (f_X10_step (1 : Int32) (q1.2 0 18) q1.2).bind fun q2 =>
          (f_X10_goesOn  (mset q2.2 0 23 ((q2.2 0 23) + (1 : Int32)))).bind fun q3 =>
          some ((1 : Int32), q3.2)
    else
      f_X10_part0_b84 rc_X10_either rc_X10_part0 x1 M
set_option maxRecDepth 20000 in
set_option maxHeartbeats 4000000 in
theorem ok_X10_part0_b0 {l : Launch} {g : Gam} {b : Nat} (rc_X10_either : Int32 → Mem → Option (Int32 × Mem)) (rc_X10_part0 : Int32 → Mem → Option (Int32 × Mem)) {dn : Nat} (hrc_X10_either : ∀ (x1 : Int32) (M : Mem) (z : Int32 × Mem), rc_X10_either x1 M = some z → Cn l g (wM b) (m_X10_either dn) [.ref (b + 0), .int x1] M (some (.int z.1)) z.2) (hrc_X10_part0 : ∀ (x1 : Int32) (M : Mem) (z : Int32 × Mem), rc_X10_part0 x1 M = some z → Cn l g (wM b) (m_X10_part0 dn) [.ref (b + 0), .int x1] M (some (.int z.1)) z.2)   (x1 : Int32) (M : Mem) (z : Int32 × Mem)  (hf : f_X10_part0_b0 rc_X10_either rc_X10_part0 x1 M = some z) : V l g (wM b) (m_X10_part0 (dn + 1)) 0 [(0, .ref (b + 0)), (1, .int x1)] [] M (some (.int z.1)) z.2 := by
  unfold f_X10_part0_b0 at hf
  refine V_aload_n (Y := (m_X10_part0 (dn + 1))) (pc := 0) 0 dX10_part0_0 rfl ?_
  refine V_gi (Y := (m_X10_part0 (dn + 1))) (pc := 1) 16 kX10 sM_0 (by decide +kernel) rfl tw_1086 dX10_part0_1 ?_
  refine V_iconst (Y := (m_X10_part0 (dn + 1))) (pc := 4) (x := (2 : Int32)) dX10_part0_4 (by decide +kernel) ?_
  refine V_icmp_ne (Y := (m_X10_part0 (dn + 1))) (pc := 5) (tgt := 33) dX10_part0_5 (by decide +kernel) hf (fun hf => ?_) (fun hf => ?_)
  · refine V_aload_n (Y := (m_X10_part0 (dn + 1))) (pc := 33) 0 dX10_part0_33 rfl ?_
    refine V_gi (Y := (m_X10_part0 (dn + 1))) (pc := 34) 16 kX10 sM_0 (by decide +kernel) rfl tw_1086 dX10_part0_34 ?_
    refine V_iconst (Y := (m_X10_part0 (dn + 1))) (pc := 37) (x := (1 : Int32)) dX10_part0_37 (by decide +kernel) ?_
    refine V_icmp_ne (Y := (m_X10_part0 (dn + 1))) (pc := 38) (tgt := 84) dX10_part0_38 (by decide +kernel) hf (fun hf => ?_) (fun hf => ?_)
    · exact V_sub [0, 1] rfl (ok_X10_part0_b84 rc_X10_either rc_X10_part0 hrc_X10_either hrc_X10_part0 x1 M z  hf)
    · refine V_aload_n (Y := (m_X10_part0 (dn + 1))) (pc := 41) 0 dX10_part0_41 rfl ?_
      refine V_gi (Y := (m_X10_part0 (dn + 1))) (pc := 42) 18 kX10 sM_0 (by decide +kernel) rfl tw_1088 dX10_part0_42 ?_
      refine V_if_eq (Y := (m_X10_part0 (dn + 1))) (pc := 45) (tgt := 84) dX10_part0_45 (by decide +kernel) hf (fun hf => ?_) (fun hf => ?_)
      · exact V_sub [0, 1] rfl (ok_X10_part0_b84 rc_X10_either rc_X10_part0 hrc_X10_either hrc_X10_part0 x1 M z  hf)
      · refine V_iload_n (Y := (m_X10_part0 (dn + 1))) (pc := 48) 1 dX10_part0_48 rfl ?_
        refine V_aload_n (Y := (m_X10_part0 (dn + 1))) (pc := 49) 0 dX10_part0_49 rfl ?_
        refine V_gi (Y := (m_X10_part0 (dn + 1))) (pc := 50) 18 kX10 sM_0 (by decide +kernel) rfl tw_1088 dX10_part0_50 ?_
        obtain ⟨q1, hq1, hf⟩ := g_bind hf
        refine V_cSi (Y := (m_X10_part0 (dn + 1))) (pc := 53) (As := [.int x1, .int (M 0 18)]) yf_X10_isName (by show 1 < 4 + (dn + 1); omega) (ok_X10_isName x1 (M 0 18) M _  hq1) tw_1391 tw_1390 rfl rfl (Nat.le_of_ble_eq_true rfl) dX10_part0_53 ?_
        refine V_if_eq (Y := (m_X10_part0 (dn + 1))) (pc := 56) (tgt := 84) dX10_part0_56 (by decide +kernel) hf (fun hf => ?_) (fun hf => ?_)
        · exact V_sub [0, 1] rfl (ok_X10_part0_b84 rc_X10_either rc_X10_part0 hrc_X10_either hrc_X10_part0 x1 q1.2 z  hf)
        · refine V_aload_n (Y := (m_X10_part0 (dn + 1))) (pc := 59) 0 dX10_part0_59 rfl ?_
          refine V_iconst (Y := (m_X10_part0 (dn + 1))) (pc := 60) (x := (1 : Int32)) dX10_part0_60 (by decide +kernel) ?_
          refine V_aload_n (Y := (m_X10_part0 (dn + 1))) (pc := 61) 0 dX10_part0_61 rfl ?_
          refine V_gi (Y := (m_X10_part0 (dn + 1))) (pc := 62) 18 kX10 sM_0 (by decide +kernel) rfl tw_1088 dX10_part0_62 ?_
          obtain ⟨q2, hq2, hf⟩ := g_bind hf
          refine V_cVv (Y := (m_X10_part0 (dn + 1))) (pc := 65) (As := [.int (1 : Int32), .int (q1.2 0 18)]) yf_X10_step kX10 sM_0 (by show 1 < 4 + (dn + 1); omega) (ok_X10_step (1 : Int32) (q1.2 0 18) q1.2 _  hq2) tw_1388 tw_44 tw_1386 rfl rfl (Nat.le_of_ble_eq_true rfl) dX10_part0_65 ?_
          refine V_aload_n (Y := (m_X10_part0 (dn + 1))) (pc := 68) 0 dX10_part0_68 rfl ?_
          refine V_dup (Y := (m_X10_part0 (dn + 1))) (pc := 69) dX10_part0_69 rfl ?_
          refine V_gi (Y := (m_X10_part0 (dn + 1))) (pc := 70) 23 kX10 sM_0 (by decide +kernel) rfl tw_1093 dX10_part0_70 ?_
          refine V_iconst (Y := (m_X10_part0 (dn + 1))) (pc := 73) (x := (1 : Int32)) dX10_part0_73 (by decide +kernel) ?_
          refine V_iadd (Y := (m_X10_part0 (dn + 1))) (pc := 74) dX10_part0_74 ?_
          refine V_pi (Y := (m_X10_part0 (dn + 1))) (pc := 75) 23 kX10 sM_0 (by decide +kernel) rfl rfl rfl tw_1093 dX10_part0_75 ?_
          refine V_aload_n (Y := (m_X10_part0 (dn + 1))) (pc := 78) 0 dX10_part0_78 rfl ?_
          obtain ⟨q3, hq3, hf⟩ := g_bind hf
          refine V_cVv (Y := (m_X10_part0 (dn + 1))) (pc := 79) (As := []) yf_X10_goesOn kX10 sM_0 (by show 3 < 4 + (dn + 1); omega) (ok_X10_goesOn  (mset q2.2 0 23 ((q2.2 0 23) + (1 : Int32))) _  hq3) tw_1336 tw_32 tw_1334 rfl rfl (Nat.le_of_ble_eq_true rfl) dX10_part0_79 ?_
          refine V_iconst (Y := (m_X10_part0 (dn + 1))) (pc := 82) (x := (1 : Int32)) dX10_part0_82 (by decide +kernel) ?_
          obtain rfl := Option.some.inj hf
          exact V_zret (Y := (m_X10_part0 (dn + 1))) z01_1 rfl dX10_part0_83
  · refine V_aload_n (Y := (m_X10_part0 (dn + 1))) (pc := 8) 0 dX10_part0_8 rfl ?_
    refine V_iconst (Y := (m_X10_part0 (dn + 1))) (pc := 9) (x := (0 : Int32)) dX10_part0_9 (by decide +kernel) ?_
    refine V_aload_n (Y := (m_X10_part0 (dn + 1))) (pc := 10) 0 dX10_part0_10 rfl ?_
    refine V_gi (Y := (m_X10_part0 (dn + 1))) (pc := 11) 17 kX10 sM_0 (by decide +kernel) rfl tw_1087 dX10_part0_11 ?_
    obtain ⟨q4, hq4, hf⟩ := g_bind hf
    refine V_cVv (Y := (m_X10_part0 (dn + 1))) (pc := 14) (As := [.int (0 : Int32), .int (M 0 17)]) yf_X10_step kX10 sM_0 (by show 1 < 4 + (dn + 1); omega) (ok_X10_step (0 : Int32) (M 0 17) M _  hq4) tw_1388 tw_44 tw_1386 rfl rfl (Nat.le_of_ble_eq_true rfl) dX10_part0_14 ?_
    refine V_aload_n (Y := (m_X10_part0 (dn + 1))) (pc := 17) 0 dX10_part0_17 rfl ?_
    refine V_dup (Y := (m_X10_part0 (dn + 1))) (pc := 18) dX10_part0_18 rfl ?_
    refine V_gi (Y := (m_X10_part0 (dn + 1))) (pc := 19) 23 kX10 sM_0 (by decide +kernel) rfl tw_1093 dX10_part0_19 ?_
    refine V_iconst (Y := (m_X10_part0 (dn + 1))) (pc := 22) (x := (1 : Int32)) dX10_part0_22 (by decide +kernel) ?_
    refine V_iadd (Y := (m_X10_part0 (dn + 1))) (pc := 23) dX10_part0_23 ?_
    refine V_pi (Y := (m_X10_part0 (dn + 1))) (pc := 24) 23 kX10 sM_0 (by decide +kernel) rfl rfl rfl tw_1093 dX10_part0_24 ?_
    refine V_aload_n (Y := (m_X10_part0 (dn + 1))) (pc := 27) 0 dX10_part0_27 rfl ?_
    obtain ⟨q5, hq5, hf⟩ := g_bind hf
    refine V_cVv (Y := (m_X10_part0 (dn + 1))) (pc := 28) (As := []) yf_X10_goesOn kX10 sM_0 (by show 3 < 4 + (dn + 1); omega) (ok_X10_goesOn  (mset q4.2 0 23 ((q4.2 0 23) + (1 : Int32))) _  hq5) tw_1336 tw_32 tw_1334 rfl rfl (Nat.le_of_ble_eq_true rfl) dX10_part0_28 ?_
    refine V_iconst (Y := (m_X10_part0 (dn + 1))) (pc := 31) (x := (1 : Int32)) dX10_part0_31 (by decide +kernel) ?_
    obtain rfl := Option.some.inj hf
    exact V_zret (Y := (m_X10_part0 (dn + 1))) z01_1 rfl dX10_part0_32
def f_X10_sum_b28 (rc_X10_term : Int32 → Mem → Option (Int32 × Mem)) (k10 : Int32 → Mem → Option (Int32 × Mem)) (x1 : Int32) (M : Mem) : Option (Int32 × Mem) :=
  (f_X10_goesOn  M).bind fun q1 =>
  (rc_X10_term x1 q1.2).bind fun q2 =>
  if q2.1 = 0 then
    some ((0 : Int32), q2.2)
  else
    (f_X10_step (2 : Int32) (M 0 18) q2.2).bind fun q3 =>
    k10 x1 q3.2
set_option maxRecDepth 20000 in
set_option maxHeartbeats 4000000 in
theorem ok_X10_sum_b28 {l : Launch} {g : Gam} {b : Nat} (rc_X10_term : Int32 → Mem → Option (Int32 × Mem)) {dn : Nat} (hrc_X10_term : ∀ (x1 : Int32) (M : Mem) (z : Int32 × Mem), rc_X10_term x1 M = some z → Cn l g (wM b) (m_X10_term dn) [.ref (b + 0), .int x1] M (some (.int z.1)) z.2) (k10 : Int32 → Mem → Option (Int32 × Mem)) (hk10 : ∀ (x1 : Int32) (M : Mem) (z : Int32 × Mem), k10 x1 M = some z → V l g (wM b) (m_X10_sum (dn + 1)) 10 [(0, .ref (b + 0)), (1, .int x1)] [] M (some (.int z.1)) z.2) (x1 : Int32) (M : Mem) (z : Int32 × Mem)  (hf : f_X10_sum_b28 rc_X10_term k10 x1 M = some z) : V l g (wM b) (m_X10_sum (dn + 1)) 28 [(0, .ref (b + 0)), (1, .int x1)] [] M (some (.int z.1)) z.2 := by
  unfold f_X10_sum_b28 at hf
  refine V_aload_n (Y := (m_X10_sum (dn + 1))) (pc := 28) 0 dX10_sum_28 rfl ?_
  refine V_gi (Y := (m_X10_sum (dn + 1))) (pc := 29) 18 kX10 sM_0 (by decide +kernel) rfl tw_1088 dX10_sum_29 ?_
  refine V_istore_n (Y := (m_X10_sum (dn + 1))) (pc := 32) [(2, .int (M 0 18)), (0, .ref (b + 0)), (1, .int x1)] dX10_sum_32 (Nat.le_of_ble_eq_true rfl) rfl ?_
  refine V_aload_n (Y := (m_X10_sum (dn + 1))) (pc := 33) 1 dX10_sum_33 rfl ?_
  obtain ⟨q1, hq1, hf⟩ := g_bind hf
  refine V_cVv (Y := (m_X10_sum (dn + 1))) (pc := 34) (As := []) yf_X10_goesOn kX10 sM_0 (by show 3 < 4 + (dn + 1); omega) (ok_X10_goesOn  M _  hq1) tw_1336 tw_32 tw_1334 rfl rfl (Nat.le_of_ble_eq_true rfl) dX10_sum_34 ?_
  refine V_aload_n (Y := (m_X10_sum (dn + 1))) (pc := 37) 1 dX10_sum_37 rfl ?_
  refine V_iload_n (Y := (m_X10_sum (dn + 1))) (pc := 38) 2 dX10_sum_38 rfl ?_
  obtain ⟨q2, hq2, hf⟩ := g_bind hf
  refine V_cVi (Y := (m_X10_sum (dn + 1))) (pc := 39) (As := [.int x1]) (yf_X10_term dn) kX10 sM_0 (by show 4 + dn < 4 + (dn + 1); omega) (hrc_X10_term x1 q1.2 _  hq2) tw_1380 tw_42 tw_1378 rfl rfl (Nat.le_of_ble_eq_true rfl) dX10_sum_39 ?_
  refine V_if_ne (Y := (m_X10_sum (dn + 1))) (pc := 42) (tgt := 47) dX10_sum_42 (by decide +kernel) hf (fun hf => ?_) (fun hf => ?_)
  · refine V_aload_n (Y := (m_X10_sum (dn + 1))) (pc := 47) 1 dX10_sum_47 rfl ?_
    refine V_iconst (Y := (m_X10_sum (dn + 1))) (pc := 48) (x := (2 : Int32)) dX10_sum_48 (by decide +kernel) ?_
    refine V_iload_n (Y := (m_X10_sum (dn + 1))) (pc := 49) 0 dX10_sum_49 rfl ?_
    obtain ⟨q3, hq3, hf⟩ := g_bind hf
    refine V_cVv (Y := (m_X10_sum (dn + 1))) (pc := 50) (As := [.int (2 : Int32), .int (M 0 18)]) yf_X10_step kX10 sM_0 (by show 1 < 4 + (dn + 1); omega) (ok_X10_step (2 : Int32) (M 0 18) q2.2 _  hq3) tw_1388 tw_44 tw_1386 rfl rfl (Nat.le_of_ble_eq_true rfl) dX10_sum_50 ?_
    refine V_goto (Y := (m_X10_sum (dn + 1))) (pc := 53) (tgt := 10) dX10_sum_53 (by decide +kernel) ?_
    exact V_sub [1, 2] rfl (hk10 x1 q3.2 z  hf)
  · refine V_iconst (Y := (m_X10_sum (dn + 1))) (pc := 45) (x := (0 : Int32)) dX10_sum_45 (by decide +kernel) ?_
    obtain rfl := Option.some.inj hf
    exact V_zret (Y := (m_X10_sum (dn + 1))) z01_0 rfl dX10_sum_46
def f_X10_sum_b10 (rc_X10_term : Int32 → Mem → Option (Int32 × Mem))  : Nat → Int32 → Mem → Option (Int32 × Mem)
  | 0, _, _ => none
  | n + 1, x1, M =>
    (f_X10_isSign (43 : Int32) M).bind fun q1 =>
    if q1.1 = 0 then
      (f_X10_isSign (45 : Int32) q1.2).bind fun q2 =>
      if q2.1 = 0 then
        some ((1 : Int32), q2.2)
      else
        f_X10_sum_b28 rc_X10_term (f_X10_sum_b10 rc_X10_term n) x1 q2.2
    else
      f_X10_sum_b28 rc_X10_term (f_X10_sum_b10 rc_X10_term n) x1 q1.2
set_option maxRecDepth 20000 in
set_option maxHeartbeats 4000000 in
theorem ok_X10_sum_b10 {l : Launch} {g : Gam} {b : Nat} (rc_X10_term : Int32 → Mem → Option (Int32 × Mem)) {dn : Nat} (hrc_X10_term : ∀ (x1 : Int32) (M : Mem) (z : Int32 × Mem), rc_X10_term x1 M = some z → Cn l g (wM b) (m_X10_term dn) [.ref (b + 0), .int x1] M (some (.int z.1)) z.2)   : ∀ (n : Nat) (x1 : Int32) (M : Mem) (z : Int32 × Mem), f_X10_sum_b10 rc_X10_term n x1 M = some z → V l g (wM b) (m_X10_sum (dn + 1)) 10 [(0, .ref (b + 0)), (1, .int x1)] [] M (some (.int z.1)) z.2 := by
  intro n
  induction n with
  | zero =>
    intro x1 M z  hf
    cases hf
  | succ n ih =>
    intro x1 M z  hf
    rw [f_X10_sum_b10] at hf
    refine V_aload_n (Y := (m_X10_sum (dn + 1))) (pc := 10) 0 dX10_sum_10 rfl ?_
    refine V_bipush (Y := (m_X10_sum (dn + 1))) (pc := 11) (x := (43 : Int32)) dX10_sum_11 (by decide +kernel) ?_
    obtain ⟨q1, hq1, hf⟩ := g_bind hf
    refine V_cVi (Y := (m_X10_sum (dn + 1))) (pc := 13) (As := [.int (43 : Int32)]) yf_X10_isSign kX10 sM_0 (by show 1 < 4 + (dn + 1); omega) (ok_X10_isSign (43 : Int32) M _  hq1) tw_1395 tw_45 tw_1393 rfl rfl (Nat.le_of_ble_eq_true rfl) dX10_sum_13 ?_
    refine V_if_ne (Y := (m_X10_sum (dn + 1))) (pc := 16) (tgt := 28) dX10_sum_16 (by decide +kernel) hf (fun hf => ?_) (fun hf => ?_)
    · exact V_sub [0, 1] rfl (ok_X10_sum_b28 rc_X10_term hrc_X10_term (f_X10_sum_b10 rc_X10_term n) ih x1 q1.2 z  hf)
    · refine V_aload_n (Y := (m_X10_sum (dn + 1))) (pc := 19) 0 dX10_sum_19 rfl ?_
      refine V_bipush (Y := (m_X10_sum (dn + 1))) (pc := 20) (x := (45 : Int32)) dX10_sum_20 (by decide +kernel) ?_
      obtain ⟨q2, hq2, hf⟩ := g_bind hf
      refine V_cVi (Y := (m_X10_sum (dn + 1))) (pc := 22) (As := [.int (45 : Int32)]) yf_X10_isSign kX10 sM_0 (by show 1 < 4 + (dn + 1); omega) (ok_X10_isSign (45 : Int32) q1.2 _  hq2) tw_1395 tw_45 tw_1393 rfl rfl (Nat.le_of_ble_eq_true rfl) dX10_sum_22 ?_
      refine V_if_eq (Y := (m_X10_sum (dn + 1))) (pc := 25) (tgt := 56) dX10_sum_25 (by decide +kernel) hf (fun hf => ?_) (fun hf => ?_)
      · refine V_iconst (Y := (m_X10_sum (dn + 1))) (pc := 56) (x := (1 : Int32)) dX10_sum_56 (by decide +kernel) ?_
        obtain rfl := Option.some.inj hf
        exact V_zret (Y := (m_X10_sum (dn + 1))) z01_1 rfl dX10_sum_57
      · exact V_sub [0, 1] rfl (ok_X10_sum_b28 rc_X10_term hrc_X10_term (f_X10_sum_b10 rc_X10_term n) ih x1 q2.2 z  hf)
def f_X10_sum_b0 (rc_X10_term : Int32 → Mem → Option (Int32 × Mem))  (x1 : Int32) (M : Mem) : Option (Int32 × Mem) :=
  (rc_X10_term x1 M).bind fun q1 =>
  if q1.1 = 0 then
    some ((0 : Int32), q1.2)
  else
    f_X10_sum_b10 rc_X10_term FU x1 q1.2
set_option maxRecDepth 20000 in
set_option maxHeartbeats 4000000 in
theorem ok_X10_sum_b0 {l : Launch} {g : Gam} {b : Nat} (rc_X10_term : Int32 → Mem → Option (Int32 × Mem)) {dn : Nat} (hrc_X10_term : ∀ (x1 : Int32) (M : Mem) (z : Int32 × Mem), rc_X10_term x1 M = some z → Cn l g (wM b) (m_X10_term dn) [.ref (b + 0), .int x1] M (some (.int z.1)) z.2)   (x1 : Int32) (M : Mem) (z : Int32 × Mem)  (hf : f_X10_sum_b0 rc_X10_term x1 M = some z) : V l g (wM b) (m_X10_sum (dn + 1)) 0 [(0, .ref (b + 0)), (1, .int x1)] [] M (some (.int z.1)) z.2 := by
  unfold f_X10_sum_b0 at hf
  refine V_aload_n (Y := (m_X10_sum (dn + 1))) (pc := 0) 0 dX10_sum_0 rfl ?_
  refine V_iload_n (Y := (m_X10_sum (dn + 1))) (pc := 1) 1 dX10_sum_1 rfl ?_
  obtain ⟨q1, hq1, hf⟩ := g_bind hf
  refine V_cVi (Y := (m_X10_sum (dn + 1))) (pc := 2) (As := [.int x1]) (yf_X10_term dn) kX10 sM_0 (by show 4 + dn < 4 + (dn + 1); omega) (hrc_X10_term x1 M _  hq1) tw_1380 tw_42 tw_1378 rfl rfl (Nat.le_of_ble_eq_true rfl) dX10_sum_2 ?_
  refine V_if_ne (Y := (m_X10_sum (dn + 1))) (pc := 5) (tgt := 10) dX10_sum_5 (by decide +kernel) hf (fun hf => ?_) (fun hf => ?_)
  · exact V_sub [0, 1] rfl (ok_X10_sum_b10 rc_X10_term hrc_X10_term FU x1 q1.2 z  hf)
  · refine V_iconst (Y := (m_X10_sum (dn + 1))) (pc := 8) (x := (0 : Int32)) dX10_sum_8 (by decide +kernel) ?_
    obtain rfl := Option.some.inj hf
    exact V_zret (Y := (m_X10_sum (dn + 1))) z01_0 rfl dX10_sum_9
def f_X10_term_b28 (rc_X10_part0 : Int32 → Mem → Option (Int32 × Mem)) (k10 : Int32 → Mem → Option (Int32 × Mem)) (x1 : Int32) (M : Mem) : Option (Int32 × Mem) :=
  (f_X10_goesOn  M).bind fun q1 =>
  (rc_X10_part0 x1 q1.2).bind fun q2 =>
  if q2.1 = 0 then
    some ((0 : Int32), q2.2)
  else
    (f_X10_step (2 : Int32) (M 0 18) q2.2).bind fun q3 =>
    k10 x1 q3.2
set_option maxRecDepth 20000 in
set_option maxHeartbeats 4000000 in
theorem ok_X10_term_b28 {l : Launch} {g : Gam} {b : Nat} (rc_X10_part0 : Int32 → Mem → Option (Int32 × Mem)) {dn : Nat} (hrc_X10_part0 : ∀ (x1 : Int32) (M : Mem) (z : Int32 × Mem), rc_X10_part0 x1 M = some z → Cn l g (wM b) (m_X10_part0 dn) [.ref (b + 0), .int x1] M (some (.int z.1)) z.2) (k10 : Int32 → Mem → Option (Int32 × Mem)) (hk10 : ∀ (x1 : Int32) (M : Mem) (z : Int32 × Mem), k10 x1 M = some z → V l g (wM b) (m_X10_term (dn + 1)) 10 [(0, .ref (b + 0)), (1, .int x1)] [] M (some (.int z.1)) z.2) (x1 : Int32) (M : Mem) (z : Int32 × Mem)  (hf : f_X10_term_b28 rc_X10_part0 k10 x1 M = some z) : V l g (wM b) (m_X10_term (dn + 1)) 28 [(0, .ref (b + 0)), (1, .int x1)] [] M (some (.int z.1)) z.2 := by
  unfold f_X10_term_b28 at hf
  refine V_aload_n (Y := (m_X10_term (dn + 1))) (pc := 28) 0 dX10_term_28 rfl ?_
  refine V_gi (Y := (m_X10_term (dn + 1))) (pc := 29) 18 kX10 sM_0 (by decide +kernel) rfl tw_1088 dX10_term_29 ?_
  refine V_istore_n (Y := (m_X10_term (dn + 1))) (pc := 32) [(2, .int (M 0 18)), (0, .ref (b + 0)), (1, .int x1)] dX10_term_32 (Nat.le_of_ble_eq_true rfl) rfl ?_
  refine V_aload_n (Y := (m_X10_term (dn + 1))) (pc := 33) 1 dX10_term_33 rfl ?_
  obtain ⟨q1, hq1, hf⟩ := g_bind hf
  refine V_cVv (Y := (m_X10_term (dn + 1))) (pc := 34) (As := []) yf_X10_goesOn kX10 sM_0 (by show 3 < 4 + (dn + 1); omega) (ok_X10_goesOn  M _  hq1) tw_1336 tw_32 tw_1334 rfl rfl (Nat.le_of_ble_eq_true rfl) dX10_term_34 ?_
  refine V_aload_n (Y := (m_X10_term (dn + 1))) (pc := 37) 1 dX10_term_37 rfl ?_
  refine V_iload_n (Y := (m_X10_term (dn + 1))) (pc := 38) 2 dX10_term_38 rfl ?_
  obtain ⟨q2, hq2, hf⟩ := g_bind hf
  refine V_cVi (Y := (m_X10_term (dn + 1))) (pc := 39) (As := [.int x1]) (yf_X10_part0 dn) kX10 sM_0 (by show 4 + dn < 4 + (dn + 1); omega) (hrc_X10_part0 x1 q1.2 _  hq2) tw_1384 tw_43 tw_1382 rfl rfl (Nat.le_of_ble_eq_true rfl) dX10_term_39 ?_
  refine V_if_ne (Y := (m_X10_term (dn + 1))) (pc := 42) (tgt := 47) dX10_term_42 (by decide +kernel) hf (fun hf => ?_) (fun hf => ?_)
  · refine V_aload_n (Y := (m_X10_term (dn + 1))) (pc := 47) 1 dX10_term_47 rfl ?_
    refine V_iconst (Y := (m_X10_term (dn + 1))) (pc := 48) (x := (2 : Int32)) dX10_term_48 (by decide +kernel) ?_
    refine V_iload_n (Y := (m_X10_term (dn + 1))) (pc := 49) 0 dX10_term_49 rfl ?_
    obtain ⟨q3, hq3, hf⟩ := g_bind hf
    refine V_cVv (Y := (m_X10_term (dn + 1))) (pc := 50) (As := [.int (2 : Int32), .int (M 0 18)]) yf_X10_step kX10 sM_0 (by show 1 < 4 + (dn + 1); omega) (ok_X10_step (2 : Int32) (M 0 18) q2.2 _  hq3) tw_1388 tw_44 tw_1386 rfl rfl (Nat.le_of_ble_eq_true rfl) dX10_term_50 ?_
    refine V_goto (Y := (m_X10_term (dn + 1))) (pc := 53) (tgt := 10) dX10_term_53 (by decide +kernel) ?_
    exact V_sub [1, 2] rfl (hk10 x1 q3.2 z  hf)
  · refine V_iconst (Y := (m_X10_term (dn + 1))) (pc := 45) (x := (0 : Int32)) dX10_term_45 (by decide +kernel) ?_
    obtain rfl := Option.some.inj hf
    exact V_zret (Y := (m_X10_term (dn + 1))) z01_0 rfl dX10_term_46
def f_X10_term_b10 (rc_X10_part0 : Int32 → Mem → Option (Int32 × Mem))  : Nat → Int32 → Mem → Option (Int32 × Mem)
  | 0, _, _ => none
  | n + 1, x1, M =>
    (f_X10_isSign (42 : Int32) M).bind fun q1 =>
    if q1.1 = 0 then
      (f_X10_isSign (47 : Int32) q1.2).bind fun q2 =>
      if q2.1 = 0 then
        some ((1 : Int32), q2.2)
      else
        f_X10_term_b28 rc_X10_part0 (f_X10_term_b10 rc_X10_part0 n) x1 q2.2
    else
      f_X10_term_b28 rc_X10_part0 (f_X10_term_b10 rc_X10_part0 n) x1 q1.2
set_option maxRecDepth 20000 in
set_option maxHeartbeats 4000000 in
theorem ok_X10_term_b10 {l : Launch} {g : Gam} {b : Nat} (rc_X10_part0 : Int32 → Mem → Option (Int32 × Mem)) {dn : Nat} (hrc_X10_part0 : ∀ (x1 : Int32) (M : Mem) (z : Int32 × Mem), rc_X10_part0 x1 M = some z → Cn l g (wM b) (m_X10_part0 dn) [.ref (b + 0), .int x1] M (some (.int z.1)) z.2)   : ∀ (n : Nat) (x1 : Int32) (M : Mem) (z : Int32 × Mem), f_X10_term_b10 rc_X10_part0 n x1 M = some z → V l g (wM b) (m_X10_term (dn + 1)) 10 [(0, .ref (b + 0)), (1, .int x1)] [] M (some (.int z.1)) z.2 := by
  intro n
  induction n with
  | zero =>
    intro x1 M z  hf
    cases hf
  | succ n ih =>
    intro x1 M z  hf
    rw [f_X10_term_b10] at hf
    refine V_aload_n (Y := (m_X10_term (dn + 1))) (pc := 10) 0 dX10_term_10 rfl ?_
    refine V_bipush (Y := (m_X10_term (dn + 1))) (pc := 11) (x := (42 : Int32)) dX10_term_11 (by decide +kernel) ?_
    obtain ⟨q1, hq1, hf⟩ := g_bind hf
    refine V_cVi (Y := (m_X10_term (dn + 1))) (pc := 13) (As := [.int (42 : Int32)]) yf_X10_isSign kX10 sM_0 (by show 1 < 4 + (dn + 1); omega) (ok_X10_isSign (42 : Int32) M _  hq1) tw_1395 tw_45 tw_1393 rfl rfl (Nat.le_of_ble_eq_true rfl) dX10_term_13 ?_
    refine V_if_ne (Y := (m_X10_term (dn + 1))) (pc := 16) (tgt := 28) dX10_term_16 (by decide +kernel) hf (fun hf => ?_) (fun hf => ?_)
    · exact V_sub [0, 1] rfl (ok_X10_term_b28 rc_X10_part0 hrc_X10_part0 (f_X10_term_b10 rc_X10_part0 n) ih x1 q1.2 z  hf)
    · refine V_aload_n (Y := (m_X10_term (dn + 1))) (pc := 19) 0 dX10_term_19 rfl ?_
      refine V_bipush (Y := (m_X10_term (dn + 1))) (pc := 20) (x := (47 : Int32)) dX10_term_20 (by decide +kernel) ?_
      obtain ⟨q2, hq2, hf⟩ := g_bind hf
      refine V_cVi (Y := (m_X10_term (dn + 1))) (pc := 22) (As := [.int (47 : Int32)]) yf_X10_isSign kX10 sM_0 (by show 1 < 4 + (dn + 1); omega) (ok_X10_isSign (47 : Int32) q1.2 _  hq2) tw_1395 tw_45 tw_1393 rfl rfl (Nat.le_of_ble_eq_true rfl) dX10_term_22 ?_
      refine V_if_eq (Y := (m_X10_term (dn + 1))) (pc := 25) (tgt := 56) dX10_term_25 (by decide +kernel) hf (fun hf => ?_) (fun hf => ?_)
      · refine V_iconst (Y := (m_X10_term (dn + 1))) (pc := 56) (x := (1 : Int32)) dX10_term_56 (by decide +kernel) ?_
        obtain rfl := Option.some.inj hf
        exact V_zret (Y := (m_X10_term (dn + 1))) z01_1 rfl dX10_term_57
      · exact V_sub [0, 1] rfl (ok_X10_term_b28 rc_X10_part0 hrc_X10_part0 (f_X10_term_b10 rc_X10_part0 n) ih x1 q2.2 z  hf)
def f_X10_term_b0 (rc_X10_part0 : Int32 → Mem → Option (Int32 × Mem))  (x1 : Int32) (M : Mem) : Option (Int32 × Mem) :=
  (rc_X10_part0 x1 M).bind fun q1 =>
  if q1.1 = 0 then
    some ((0 : Int32), q1.2)
  else
    f_X10_term_b10 rc_X10_part0 FU x1 q1.2
set_option maxRecDepth 20000 in
set_option maxHeartbeats 4000000 in
theorem ok_X10_term_b0 {l : Launch} {g : Gam} {b : Nat} (rc_X10_part0 : Int32 → Mem → Option (Int32 × Mem)) {dn : Nat} (hrc_X10_part0 : ∀ (x1 : Int32) (M : Mem) (z : Int32 × Mem), rc_X10_part0 x1 M = some z → Cn l g (wM b) (m_X10_part0 dn) [.ref (b + 0), .int x1] M (some (.int z.1)) z.2)   (x1 : Int32) (M : Mem) (z : Int32 × Mem)  (hf : f_X10_term_b0 rc_X10_part0 x1 M = some z) : V l g (wM b) (m_X10_term (dn + 1)) 0 [(0, .ref (b + 0)), (1, .int x1)] [] M (some (.int z.1)) z.2 := by
  unfold f_X10_term_b0 at hf
  refine V_aload_n (Y := (m_X10_term (dn + 1))) (pc := 0) 0 dX10_term_0 rfl ?_
  refine V_iload_n (Y := (m_X10_term (dn + 1))) (pc := 1) 1 dX10_term_1 rfl ?_
  obtain ⟨q1, hq1, hf⟩ := g_bind hf
  refine V_cVi (Y := (m_X10_term (dn + 1))) (pc := 2) (As := [.int x1]) (yf_X10_part0 dn) kX10 sM_0 (by show 4 + dn < 4 + (dn + 1); omega) (hrc_X10_part0 x1 M _  hq1) tw_1384 tw_43 tw_1382 rfl rfl (Nat.le_of_ble_eq_true rfl) dX10_term_2 ?_
  refine V_if_ne (Y := (m_X10_term (dn + 1))) (pc := 5) (tgt := 10) dX10_term_5 (by decide +kernel) hf (fun hf => ?_) (fun hf => ?_)
  · exact V_sub [0, 1] rfl (ok_X10_term_b10 rc_X10_part0 hrc_X10_part0 FU x1 q1.2 z  hf)
  · refine V_iconst (Y := (m_X10_term (dn + 1))) (pc := 8) (x := (0 : Int32)) dX10_term_8 (by decide +kernel) ?_
    obtain rfl := Option.some.inj hf
    exact V_zret (Y := (m_X10_term (dn + 1))) z01_0 rfl dX10_term_9
def f_X10_test_b37 (rc_X10_sum : Int32 → Mem → Option (Int32 × Mem))  (x1 : Int32) (M : Mem) : Option (Int32 × Mem) :=
  (f_X10_goesOn  M).bind fun q1 =>
  (rc_X10_sum x1 q1.2).bind fun q2 =>
  if q2.1 = 0 then
    some ((0 : Int32), q2.2)
  else
    (f_X10_step (2 : Int32) (M 0 18) q2.2).bind fun q3 =>
    some ((1 : Int32), q3.2)
set_option maxRecDepth 20000 in
set_option maxHeartbeats 4000000 in
theorem ok_X10_test_b37 {l : Launch} {g : Gam} {b : Nat} (rc_X10_sum : Int32 → Mem → Option (Int32 × Mem)) {dn : Nat} (hrc_X10_sum : ∀ (x1 : Int32) (M : Mem) (z : Int32 × Mem), rc_X10_sum x1 M = some z → Cn l g (wM b) (m_X10_sum dn) [.ref (b + 0), .int x1] M (some (.int z.1)) z.2)   (x1 : Int32) (M : Mem) (z : Int32 × Mem)  (hf : f_X10_test_b37 rc_X10_sum x1 M = some z) : V l g (wM b) (m_X10_test (dn + 1)) 37 [(0, .ref (b + 0)), (1, .int x1)] [] M (some (.int z.1)) z.2 := by
  unfold f_X10_test_b37 at hf
  refine V_aload_n (Y := (m_X10_test (dn + 1))) (pc := 37) 0 dX10_test_37 rfl ?_
  refine V_gi (Y := (m_X10_test (dn + 1))) (pc := 38) 18 kX10 sM_0 (by decide +kernel) rfl tw_1088 dX10_test_38 ?_
  refine V_istore_n (Y := (m_X10_test (dn + 1))) (pc := 41) [(2, .int (M 0 18)), (0, .ref (b + 0)), (1, .int x1)] dX10_test_41 (Nat.le_of_ble_eq_true rfl) rfl ?_
  refine V_aload_n (Y := (m_X10_test (dn + 1))) (pc := 42) 1 dX10_test_42 rfl ?_
  obtain ⟨q1, hq1, hf⟩ := g_bind hf
  refine V_cVv (Y := (m_X10_test (dn + 1))) (pc := 43) (As := []) yf_X10_goesOn kX10 sM_0 (by show 3 < 4 + (dn + 1); omega) (ok_X10_goesOn  M _  hq1) tw_1336 tw_32 tw_1334 rfl rfl (Nat.le_of_ble_eq_true rfl) dX10_test_43 ?_
  refine V_aload_n (Y := (m_X10_test (dn + 1))) (pc := 46) 1 dX10_test_46 rfl ?_
  refine V_iload_n (Y := (m_X10_test (dn + 1))) (pc := 47) 2 dX10_test_47 rfl ?_
  obtain ⟨q2, hq2, hf⟩ := g_bind hf
  refine V_cVi (Y := (m_X10_test (dn + 1))) (pc := 48) (As := [.int x1]) (yf_X10_sum dn) kX10 sM_0 (by show 4 + dn < 4 + (dn + 1); omega) (hrc_X10_sum x1 q1.2 _  hq2) tw_1376 tw_41 tw_1374 rfl rfl (Nat.le_of_ble_eq_true rfl) dX10_test_48 ?_
  refine V_if_ne (Y := (m_X10_test (dn + 1))) (pc := 51) (tgt := 56) dX10_test_51 (by decide +kernel) hf (fun hf => ?_) (fun hf => ?_)
  · refine V_aload_n (Y := (m_X10_test (dn + 1))) (pc := 56) 1 dX10_test_56 rfl ?_
    refine V_iconst (Y := (m_X10_test (dn + 1))) (pc := 57) (x := (2 : Int32)) dX10_test_57 (by decide +kernel) ?_
    refine V_iload_n (Y := (m_X10_test (dn + 1))) (pc := 58) 0 dX10_test_58 rfl ?_
    obtain ⟨q3, hq3, hf⟩ := g_bind hf
    refine V_cVv (Y := (m_X10_test (dn + 1))) (pc := 59) (As := [.int (2 : Int32), .int (M 0 18)]) yf_X10_step kX10 sM_0 (by show 1 < 4 + (dn + 1); omega) (ok_X10_step (2 : Int32) (M 0 18) q2.2 _  hq3) tw_1388 tw_44 tw_1386 rfl rfl (Nat.le_of_ble_eq_true rfl) dX10_test_59 ?_
    refine V_iconst (Y := (m_X10_test (dn + 1))) (pc := 62) (x := (1 : Int32)) dX10_test_62 (by decide +kernel) ?_
    obtain rfl := Option.some.inj hf
    exact V_zret (Y := (m_X10_test (dn + 1))) z01_1 rfl dX10_test_63
  · refine V_iconst (Y := (m_X10_test (dn + 1))) (pc := 54) (x := (0 : Int32)) dX10_test_54 (by decide +kernel) ?_
    obtain rfl := Option.some.inj hf
    exact V_zret (Y := (m_X10_test (dn + 1))) z01_0 rfl dX10_test_55
def f_X10_test_b0 (rc_X10_sum : Int32 → Mem → Option (Int32 × Mem))  (x1 : Int32) (M : Mem) : Option (Int32 × Mem) :=
  (rc_X10_sum x1 M).bind fun q1 =>
  if q1.1 = 0 then
    some ((0 : Int32), q1.2)
  else
    (f_X10_isSign (60 : Int32) q1.2).bind fun q2 =>
    if q2.1 = 0 then
      (f_X10_isSign (61 : Int32) q2.2).bind fun q3 =>
      if q3.1 = 0 then
        (f_X10_isSign (62 : Int32) q3.2).bind fun q4 =>
        if q4.1 = 0 then
          some ((1 : Int32), q4.2)
        else
          f_X10_test_b37 rc_X10_sum x1 q4.2
      else
        f_X10_test_b37 rc_X10_sum x1 q3.2
    else
      f_X10_test_b37 rc_X10_sum x1 q2.2
set_option maxRecDepth 20000 in
set_option maxHeartbeats 4000000 in
theorem ok_X10_test_b0 {l : Launch} {g : Gam} {b : Nat} (rc_X10_sum : Int32 → Mem → Option (Int32 × Mem)) {dn : Nat} (hrc_X10_sum : ∀ (x1 : Int32) (M : Mem) (z : Int32 × Mem), rc_X10_sum x1 M = some z → Cn l g (wM b) (m_X10_sum dn) [.ref (b + 0), .int x1] M (some (.int z.1)) z.2)   (x1 : Int32) (M : Mem) (z : Int32 × Mem)  (hf : f_X10_test_b0 rc_X10_sum x1 M = some z) : V l g (wM b) (m_X10_test (dn + 1)) 0 [(0, .ref (b + 0)), (1, .int x1)] [] M (some (.int z.1)) z.2 := by
  unfold f_X10_test_b0 at hf
  refine V_aload_n (Y := (m_X10_test (dn + 1))) (pc := 0) 0 dX10_test_0 rfl ?_
  refine V_iload_n (Y := (m_X10_test (dn + 1))) (pc := 1) 1 dX10_test_1 rfl ?_
  obtain ⟨q1, hq1, hf⟩ := g_bind hf
  refine V_cVi (Y := (m_X10_test (dn + 1))) (pc := 2) (As := [.int x1]) (yf_X10_sum dn) kX10 sM_0 (by show 4 + dn < 4 + (dn + 1); omega) (hrc_X10_sum x1 M _  hq1) tw_1376 tw_41 tw_1374 rfl rfl (Nat.le_of_ble_eq_true rfl) dX10_test_2 ?_
  refine V_if_ne (Y := (m_X10_test (dn + 1))) (pc := 5) (tgt := 10) dX10_test_5 (by decide +kernel) hf (fun hf => ?_) (fun hf => ?_)
  · refine V_aload_n (Y := (m_X10_test (dn + 1))) (pc := 10) 0 dX10_test_10 rfl ?_
    refine V_bipush (Y := (m_X10_test (dn + 1))) (pc := 11) (x := (60 : Int32)) dX10_test_11 (by decide +kernel) ?_
    obtain ⟨q2, hq2, hf⟩ := g_bind hf
    refine V_cVi (Y := (m_X10_test (dn + 1))) (pc := 13) (As := [.int (60 : Int32)]) yf_X10_isSign kX10 sM_0 (by show 1 < 4 + (dn + 1); omega) (ok_X10_isSign (60 : Int32) q1.2 _  hq2) tw_1395 tw_45 tw_1393 rfl rfl (Nat.le_of_ble_eq_true rfl) dX10_test_13 ?_
    refine V_if_ne (Y := (m_X10_test (dn + 1))) (pc := 16) (tgt := 37) dX10_test_16 (by decide +kernel) hf (fun hf => ?_) (fun hf => ?_)
    · exact V_sub [0, 1] rfl (ok_X10_test_b37 rc_X10_sum hrc_X10_sum x1 q2.2 z  hf)
    · refine V_aload_n (Y := (m_X10_test (dn + 1))) (pc := 19) 0 dX10_test_19 rfl ?_
      refine V_bipush (Y := (m_X10_test (dn + 1))) (pc := 20) (x := (61 : Int32)) dX10_test_20 (by decide +kernel) ?_
      obtain ⟨q3, hq3, hf⟩ := g_bind hf
      refine V_cVi (Y := (m_X10_test (dn + 1))) (pc := 22) (As := [.int (61 : Int32)]) yf_X10_isSign kX10 sM_0 (by show 1 < 4 + (dn + 1); omega) (ok_X10_isSign (61 : Int32) q2.2 _  hq3) tw_1395 tw_45 tw_1393 rfl rfl (Nat.le_of_ble_eq_true rfl) dX10_test_22 ?_
      refine V_if_ne (Y := (m_X10_test (dn + 1))) (pc := 25) (tgt := 37) dX10_test_25 (by decide +kernel) hf (fun hf => ?_) (fun hf => ?_)
      · exact V_sub [0, 1] rfl (ok_X10_test_b37 rc_X10_sum hrc_X10_sum x1 q3.2 z  hf)
      · refine V_aload_n (Y := (m_X10_test (dn + 1))) (pc := 28) 0 dX10_test_28 rfl ?_
        refine V_bipush (Y := (m_X10_test (dn + 1))) (pc := 29) (x := (62 : Int32)) dX10_test_29 (by decide +kernel) ?_
        obtain ⟨q4, hq4, hf⟩ := g_bind hf
        refine V_cVi (Y := (m_X10_test (dn + 1))) (pc := 31) (As := [.int (62 : Int32)]) yf_X10_isSign kX10 sM_0 (by show 1 < 4 + (dn + 1); omega) (ok_X10_isSign (62 : Int32) q3.2 _  hq4) tw_1395 tw_45 tw_1393 rfl rfl (Nat.le_of_ble_eq_true rfl) dX10_test_31 ?_
        refine V_if_eq (Y := (m_X10_test (dn + 1))) (pc := 34) (tgt := 62) dX10_test_34 (by decide +kernel) hf (fun hf => ?_) (fun hf => ?_)
        · refine V_iconst (Y := (m_X10_test (dn + 1))) (pc := 62) (x := (1 : Int32)) dX10_test_62 (by decide +kernel) ?_
          obtain rfl := Option.some.inj hf
          exact V_zret (Y := (m_X10_test (dn + 1))) z01_1 rfl dX10_test_63
        · exact V_sub [0, 1] rfl (ok_X10_test_b37 rc_X10_sum hrc_X10_sum x1 q4.2 z  hf)
  · refine V_iconst (Y := (m_X10_test (dn + 1))) (pc := 8) (x := (0 : Int32)) dX10_test_8 (by decide +kernel) ?_
    obtain rfl := Option.some.inj hf
    exact V_zret (Y := (m_X10_test (dn + 1))) z01_0 rfl dX10_test_9
set_option maxRecDepth 20000 in
set_option maxHeartbeats 4000000 in
def G_X10_both : Nat → (Int32 → Mem → Option (Int32 × Mem)) × (Int32 → Mem → Option (Int32 × Mem)) × (Int32 → Mem → Option (Int32 × Mem)) × (Int32 → Mem → Option (Int32 × Mem)) × (Int32 → Mem → Option (Int32 × Mem)) × (Int32 → Mem → Option (Int32 × Mem))
  | 0 => (fun _ _ => none, fun _ _ => none, fun _ _ => none, fun _ _ => none, fun _ _ => none, fun _ _ => none)
  | n + 1 => (f_X10_both_b0 ((G_X10_both n).2.2.2.2.2), f_X10_either_b0 ((G_X10_both n).1), f_X10_part0_b0 ((G_X10_both n).2.1) ((G_X10_both n).2.2.1), f_X10_sum_b0 ((G_X10_both n).2.2.2.2.1), f_X10_term_b0 ((G_X10_both n).2.2.1), f_X10_test_b0 ((G_X10_both n).2.2.2.1))
def f_X10_both (n : Nat) : (Int32 → Mem → Option (Int32 × Mem)) := (G_X10_both n).1
def f_X10_either (n : Nat) : (Int32 → Mem → Option (Int32 × Mem)) := (G_X10_both n).2.1
def f_X10_part0 (n : Nat) : (Int32 → Mem → Option (Int32 × Mem)) := (G_X10_both n).2.2.1
def f_X10_sum (n : Nat) : (Int32 → Mem → Option (Int32 × Mem)) := (G_X10_both n).2.2.2.1
def f_X10_term (n : Nat) : (Int32 → Mem → Option (Int32 × Mem)) := (G_X10_both n).2.2.2.2.1
def f_X10_test (n : Nat) : (Int32 → Mem → Option (Int32 × Mem)) := (G_X10_both n).2.2.2.2.2
theorem ok_G_X10_both {l : Launch} {g : Gam} {b : Nat} : ∀ n : Nat, (∀ (x1 : Int32) (M : Mem) (z : Int32 × Mem), (G_X10_both n).1 x1 M = some z → Cn l g (wM b) (m_X10_both n) [.ref (b + 0), .int x1] M (some (.int z.1)) z.2) ∧ (∀ (x1 : Int32) (M : Mem) (z : Int32 × Mem), (G_X10_both n).2.1 x1 M = some z → Cn l g (wM b) (m_X10_either n) [.ref (b + 0), .int x1] M (some (.int z.1)) z.2) ∧ (∀ (x1 : Int32) (M : Mem) (z : Int32 × Mem), (G_X10_both n).2.2.1 x1 M = some z → Cn l g (wM b) (m_X10_part0 n) [.ref (b + 0), .int x1] M (some (.int z.1)) z.2) ∧ (∀ (x1 : Int32) (M : Mem) (z : Int32 × Mem), (G_X10_both n).2.2.2.1 x1 M = some z → Cn l g (wM b) (m_X10_sum n) [.ref (b + 0), .int x1] M (some (.int z.1)) z.2) ∧ (∀ (x1 : Int32) (M : Mem) (z : Int32 × Mem), (G_X10_both n).2.2.2.2.1 x1 M = some z → Cn l g (wM b) (m_X10_term n) [.ref (b + 0), .int x1] M (some (.int z.1)) z.2) ∧ (∀ (x1 : Int32) (M : Mem) (z : Int32 × Mem), (G_X10_both n).2.2.2.2.2 x1 M = some z → Cn l g (wM b) (m_X10_test n) [.ref (b + 0), .int x1] M (some (.int z.1)) z.2) := by
  intro n
  induction n with
  | zero => exact ⟨(fun _ _ _ hf => by cases hf), (fun _ _ _ hf => by cases hf), (fun _ _ _ hf => by cases hf), (fun _ _ _ hf => by cases hf), (fun _ _ _ hf => by cases hf), (fun _ _ _ hf => by cases hf)⟩
  | succ n ih =>
    exact ⟨fun x1 M z  hf => Cn_of (show plainName yX10_both.cls = true by decide +kernel) (Nat.le_of_ble_eq_true rfl) (ok_X10_both_b0 _ (ih.2.2.2.2.2) x1 M z  hf), fun x1 M z  hf => Cn_of (show plainName yX10_either.cls = true by decide +kernel) (Nat.le_of_ble_eq_true rfl) (ok_X10_either_b0 _ (ih.1) x1 M z  hf), fun x1 M z  hf => Cn_of (show plainName yX10_part0.cls = true by decide +kernel) (Nat.le_of_ble_eq_true rfl) (ok_X10_part0_b0 _ _ (ih.2.1) (ih.2.2.1) x1 M z  hf), fun x1 M z  hf => Cn_of (show plainName yX10_sum.cls = true by decide +kernel) (Nat.le_of_ble_eq_true rfl) (ok_X10_sum_b0 _ (ih.2.2.2.2.1) x1 M z  hf), fun x1 M z  hf => Cn_of (show plainName yX10_term.cls = true by decide +kernel) (Nat.le_of_ble_eq_true rfl) (ok_X10_term_b0 _ (ih.2.2.1) x1 M z  hf), fun x1 M z  hf => Cn_of (show plainName yX10_test.cls = true by decide +kernel) (Nat.le_of_ble_eq_true rfl) (ok_X10_test_b0 _ (ih.2.2.2.1) x1 M z  hf)⟩
theorem ok_X10_both {l : Launch} {g : Gam} {b : Nat} (n : Nat) : ∀ (x1 : Int32) (M : Mem) (z : Int32 × Mem), f_X10_both n x1 M = some z → Cn l g (wM b) (m_X10_both n) [.ref (b + 0), .int x1] M (some (.int z.1)) z.2 := (ok_G_X10_both n).1
theorem ok_X10_either {l : Launch} {g : Gam} {b : Nat} (n : Nat) : ∀ (x1 : Int32) (M : Mem) (z : Int32 × Mem), f_X10_either n x1 M = some z → Cn l g (wM b) (m_X10_either n) [.ref (b + 0), .int x1] M (some (.int z.1)) z.2 := (ok_G_X10_both n).2.1
theorem ok_X10_part0 {l : Launch} {g : Gam} {b : Nat} (n : Nat) : ∀ (x1 : Int32) (M : Mem) (z : Int32 × Mem), f_X10_part0 n x1 M = some z → Cn l g (wM b) (m_X10_part0 n) [.ref (b + 0), .int x1] M (some (.int z.1)) z.2 := (ok_G_X10_both n).2.2.1
theorem ok_X10_sum {l : Launch} {g : Gam} {b : Nat} (n : Nat) : ∀ (x1 : Int32) (M : Mem) (z : Int32 × Mem), f_X10_sum n x1 M = some z → Cn l g (wM b) (m_X10_sum n) [.ref (b + 0), .int x1] M (some (.int z.1)) z.2 := (ok_G_X10_both n).2.2.2.1
theorem ok_X10_term {l : Launch} {g : Gam} {b : Nat} (n : Nat) : ∀ (x1 : Int32) (M : Mem) (z : Int32 × Mem), f_X10_term n x1 M = some z → Cn l g (wM b) (m_X10_term n) [.ref (b + 0), .int x1] M (some (.int z.1)) z.2 := (ok_G_X10_both n).2.2.2.2.1
theorem ok_X10_test {l : Launch} {g : Gam} {b : Nat} (n : Nat) : ∀ (x1 : Int32) (M : Mem) (z : Int32 × Mem), f_X10_test n x1 M = some z → Cn l g (wM b) (m_X10_test n) [.ref (b + 0), .int x1] M (some (.int z.1)) z.2 := (ok_G_X10_both n).2.2.2.2.2

