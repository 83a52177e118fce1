abbrev m_X2_takeFrom : Mth := (yX2_takeFrom, cX2_takeFrom, 2, none, 1)
theorem yf_X2_takeFrom : YF m_X2_takeFrom 1 := ⟨tw_1050, tw_72, by decide +kernel, by decide +kernel⟩
def f_X2_takeFrom_bc48_2  (a0 : Nat) (a1 : Nat) (M : Mem) : Option (Int32 × Mem) :=
  some (0, (mset M a0 6 (M a1 6)))
set_option maxRecDepth 20000 in
set_option maxHeartbeats 4000000 in
theorem ok_X2_takeFrom_bc48_2 {l : Launch} {g : Gam} {b : Nat}   (a0 : Nat) (a1 : Nat) (M : Mem) (z : Int32 × Mem) (ha0 : shC[a0]? = some (1, 2)) (ha1 : shC[a1]? = some (1, 2)) (hf : f_X2_takeFrom_bc48_2 a0 a1 M = some z) : V l g (wC b) m_X2_takeFrom 48 [(0, .ref (b + a0)), (1, .ref (b + a1))] [] M none z.2 := by
  unfold f_X2_takeFrom_bc48_2 at hf
  refine V_aload_n (Y := m_X2_takeFrom) (pc := 48) 0 dX2_takeFrom_48 rfl ?_
  refine V_aload_n (Y := m_X2_takeFrom) (pc := 49) 1 dX2_takeFrom_49 rfl ?_
  refine V_gi (Y := m_X2_takeFrom) (pc := 50) 6 kX2 ha1 (by decide +kernel) rfl tw_310 dX2_takeFrom_50 ?_
  refine V_pi (Y := m_X2_takeFrom) (pc := 53) 6 kX2 ha0 (by decide +kernel) rfl rfl rfl tw_310 dX2_takeFrom_53 ?_
  obtain rfl := Option.some.inj hf
  exact V_vret (Y := m_X2_takeFrom) rfl dX2_takeFrom_56
def f_X2_takeFrom_bc24_1  (a0 : Nat) (a1 : Nat) (M : Mem) : Option (Int32 × Mem) :=
  f_X2_takeFrom_bc48_2  a0 a1 (mset (mset (mset M a0 3 (M a1 3)) a0 4 ((mset M a0 3 (M a1 3)) a1 4)) a0 5 ((mset (mset M a0 3 (M a1 3)) a0 4 ((mset M a0 3 (M a1 3)) a1 4)) a1 5))
set_option maxRecDepth 20000 in
set_option maxHeartbeats 4000000 in
theorem ok_X2_takeFrom_bc24_1 {l : Launch} {g : Gam} {b : Nat}   (a0 : Nat) (a1 : Nat) (M : Mem) (z : Int32 × Mem) (ha0 : shC[a0]? = some (1, 2)) (ha1 : shC[a1]? = some (1, 2)) (hf : f_X2_takeFrom_bc24_1 a0 a1 M = some z) : V l g (wC b) m_X2_takeFrom 24 [(0, .ref (b + a0)), (1, .ref (b + a1))] [] M none z.2 := by
  unfold f_X2_takeFrom_bc24_1 at hf
  refine V_aload_n (Y := m_X2_takeFrom) (pc := 24) 0 dX2_takeFrom_24 rfl ?_
  refine V_aload_n (Y := m_X2_takeFrom) (pc := 25) 1 dX2_takeFrom_25 rfl ?_
  refine V_gi (Y := m_X2_takeFrom) (pc := 26) 3 kX2 ha1 (by decide +kernel) rfl tw_296 dX2_takeFrom_26 ?_
  refine V_pi (Y := m_X2_takeFrom) (pc := 29) 3 kX2 ha0 (by decide +kernel) rfl rfl rfl tw_296 dX2_takeFrom_29 ?_
  refine V_aload_n (Y := m_X2_takeFrom) (pc := 32) 0 dX2_takeFrom_32 rfl ?_
  refine V_aload_n (Y := m_X2_takeFrom) (pc := 33) 1 dX2_takeFrom_33 rfl ?_
  refine V_gi (Y := m_X2_takeFrom) (pc := 34) 4 kX2 ha1 (by decide +kernel) rfl tw_301 dX2_takeFrom_34 ?_
  refine V_pi (Y := m_X2_takeFrom) (pc := 37) 4 kX2 ha0 (by decide +kernel) rfl rfl rfl tw_301 dX2_takeFrom_37 ?_
  refine V_aload_n (Y := m_X2_takeFrom) (pc := 40) 0 dX2_takeFrom_40 rfl ?_
  refine V_aload_n (Y := m_X2_takeFrom) (pc := 41) 1 dX2_takeFrom_41 rfl ?_
  refine V_gi (Y := m_X2_takeFrom) (pc := 42) 5 kX2 ha1 (by decide +kernel) rfl tw_305 dX2_takeFrom_42 ?_
  refine V_pi (Y := m_X2_takeFrom) (pc := 45) 5 kX2 ha0 (by decide +kernel) rfl rfl rfl tw_305 dX2_takeFrom_45 ?_
  exact V_sub [0, 1] rfl (ok_X2_takeFrom_bc48_2  a0 a1 (mset (mset (mset M a0 3 (M a1 3)) a0 4 ((mset M a0 3 (M a1 3)) a1 4)) a0 5 ((mset (mset M a0 3 (M a1 3)) a0 4 ((mset M a0 3 (M a1 3)) a1 4)) a1 5)) z ha0 ha1 hf)
def f_X2_takeFrom_b0  (a0 : Nat) (a1 : Nat) (M : Mem) : Option (Int32 × Mem) :=
  f_X2_takeFrom_bc24_1  a0 a1 (mset (mset (mset M a0 0 (M a1 0)) a0 1 ((mset M a0 0 (M a1 0)) a1 1)) a0 2 ((mset (mset M a0 0 (M a1 0)) a0 1 ((mset M a0 0 (M a1 0)) a1 1)) a1 2))
set_option maxRecDepth 20000 in
set_option maxHeartbeats 4000000 in
theorem ok_X2_takeFrom_b0 {l : Launch} {g : Gam} {b : Nat}   (a0 : Nat) (a1 : Nat) (M : Mem) (z : Int32 × Mem) (ha0 : shC[a0]? = some (1, 2)) (ha1 : shC[a1]? = some (1, 2)) (hf : f_X2_takeFrom_b0 a0 a1 M = some z) : V l g (wC b) m_X2_takeFrom 0 [(0, .ref (b + a0)), (1, .ref (b + a1))] [] M none z.2 := by
  unfold f_X2_takeFrom_b0 at hf
  refine V_aload_n (Y := m_X2_takeFrom) (pc := 0) 0 dX2_takeFrom_0 rfl ?_
  refine V_aload_n (Y := m_X2_takeFrom) (pc := 1) 1 dX2_takeFrom_1 rfl ?_
  refine V_gi (Y := m_X2_takeFrom) (pc := 2) 0 kX2 ha1 (by decide +kernel) rfl tw_282 dX2_takeFrom_2 ?_
  refine V_pi (Y := m_X2_takeFrom) (pc := 5) 0 kX2 ha0 (by decide +kernel) rfl rfl rfl tw_282 dX2_takeFrom_5 ?_
  refine V_aload_n (Y := m_X2_takeFrom) (pc := 8) 0 dX2_takeFrom_8 rfl ?_
  refine V_aload_n (Y := m_X2_takeFrom) (pc := 9) 1 dX2_takeFrom_9 rfl ?_
  refine V_gi (Y := m_X2_takeFrom) (pc := 10) 1 kX2 ha1 (by decide +kernel) rfl tw_286 dX2_takeFrom_10 ?_
  refine V_pi (Y := m_X2_takeFrom) (pc := 13) 1 kX2 ha0 (by decide +kernel) rfl rfl rfl tw_286 dX2_takeFrom_13 ?_
  refine V_aload_n (Y := m_X2_takeFrom) (pc := 16) 0 dX2_takeFrom_16 rfl ?_
  refine V_aload_n (Y := m_X2_takeFrom) (pc := 17) 1 dX2_takeFrom_17 rfl ?_
  refine V_gi (Y := m_X2_takeFrom) (pc := 18) 2 kX2 ha1 (by decide +kernel) rfl tw_291 dX2_takeFrom_18 ?_
  refine V_pi (Y := m_X2_takeFrom) (pc := 21) 2 kX2 ha0 (by decide +kernel) rfl rfl rfl tw_291 dX2_takeFrom_21 ?_
  exact V_sub [0, 1] rfl (ok_X2_takeFrom_bc24_1  a0 a1 (mset (mset (mset M a0 0 (M a1 0)) a0 1 ((mset M a0 0 (M a1 0)) a1 1)) a0 2 ((mset (mset M a0 0 (M a1 0)) a0 1 ((mset M a0 0 (M a1 0)) a1 1)) a1 2)) z ha0 ha1 hf)
def f_X2_takeFrom (a0 : Nat) (a1 : Nat) (M : Mem) : Option (Int32 × Mem) := f_X2_takeFrom_b0 a0 a1 M
set_option maxRecDepth 20000 in
set_option maxHeartbeats 4000000 in
theorem ok_X2_takeFrom {l : Launch} {g : Gam} {b : Nat} : ∀ (a0 : Nat) (a1 : Nat) (M : Mem) (z : Int32 × Mem), shC[a0]? = some (1, 2) → shC[a1]? = some (1, 2) → f_X2_takeFrom a0 a1 M = some z → Cn l g (wC b) m_X2_takeFrom [.ref (b + a0), .ref (b + a1)] M none z.2 := fun a0 a1 M z ha0 ha1 hf => Cn_of (by decide +kernel) (Nat.le_of_ble_eq_true rfl) (V_sub [0, 1] rfl (ok_X2_takeFrom_b0 a0 a1 M z ha0 ha1 hf))

abbrev m_X0_takeFrom : Mth := (yX0_takeFrom, cX0_takeFrom, 3, none, 2)
theorem yf_X0_takeFrom : YF m_X0_takeFrom 1 := ⟨tw_1046, tw_71, by decide +kernel, by decide +kernel⟩
def f_X0_takeFrom_bc145_4  (a0 : Nat) (a1 : Nat) (M : Mem) : Option (Int32 × Mem) :=
  some (0, (mset M a0 12 (M a1 12)))
set_option maxRecDepth 20000 in
set_option maxHeartbeats 4000000 in
theorem ok_X0_takeFrom_bc145_4 {l : Launch} {g : Gam} {b : Nat}   (a0 : Nat) (a1 : Nat) (M : Mem) (z : Int32 × Mem) (ha0 : shC[a0]? = some (1, 0)) (ha1 : shC[a1]? = some (1, 0)) (hf : f_X0_takeFrom_bc145_4 a0 a1 M = some z) : V l g (wC b) m_X0_takeFrom 145 [(0, .ref (b + a0)), (1, .ref (b + a1))] [] M none z.2 := by
  unfold f_X0_takeFrom_bc145_4 at hf
  refine V_aload_n (Y := m_X0_takeFrom) (pc := 145) 0 dX0_takeFrom_145 rfl ?_
  refine V_aload_n (Y := m_X0_takeFrom) (pc := 146) 1 dX0_takeFrom_146 rfl ?_
  refine V_gi (Y := m_X0_takeFrom) (pc := 147) 12 kX0 ha1 (by decide +kernel) rfl tw_358 dX0_takeFrom_147 ?_
  refine V_pi (Y := m_X0_takeFrom) (pc := 150) 12 kX0 ha0 (by decide +kernel) rfl rfl rfl tw_358 dX0_takeFrom_150 ?_
  obtain rfl := Option.some.inj hf
  exact V_vret (Y := m_X0_takeFrom) rfl dX0_takeFrom_153
def f_X0_takeFrom_bc121_3  (a0 : Nat) (a1 : Nat) (M : Mem) : Option (Int32 × Mem) :=
  f_X0_takeFrom_bc145_4  a0 a1 (mset (mset (mset M a0 9 (M a1 9)) a0 10 ((mset M a0 9 (M a1 9)) a1 10)) a0 11 ((mset (mset M a0 9 (M a1 9)) a0 10 ((mset M a0 9 (M a1 9)) a1 10)) a1 11))
set_option maxRecDepth 20000 in
set_option maxHeartbeats 4000000 in
theorem ok_X0_takeFrom_bc121_3 {l : Launch} {g : Gam} {b : Nat}   (a0 : Nat) (a1 : Nat) (M : Mem) (z : Int32 × Mem) (ha0 : shC[a0]? = some (1, 0)) (ha1 : shC[a1]? = some (1, 0)) (hf : f_X0_takeFrom_bc121_3 a0 a1 M = some z) : V l g (wC b) m_X0_takeFrom 121 [(0, .ref (b + a0)), (1, .ref (b + a1))] [] M none z.2 := by
  unfold f_X0_takeFrom_bc121_3 at hf
  refine V_aload_n (Y := m_X0_takeFrom) (pc := 121) 0 dX0_takeFrom_121 rfl ?_
  refine V_aload_n (Y := m_X0_takeFrom) (pc := 122) 1 dX0_takeFrom_122 rfl ?_
  refine V_gi (Y := m_X0_takeFrom) (pc := 123) 9 kX0 ha1 (by decide +kernel) rfl tw_350 dX0_takeFrom_123 ?_
  refine V_pi (Y := m_X0_takeFrom) (pc := 126) 9 kX0 ha0 (by decide +kernel) rfl rfl rfl tw_350 dX0_takeFrom_126 ?_
  refine V_aload_n (Y := m_X0_takeFrom) (pc := 129) 0 dX0_takeFrom_129 rfl ?_
  refine V_aload_n (Y := m_X0_takeFrom) (pc := 130) 1 dX0_takeFrom_130 rfl ?_
  refine V_gi (Y := m_X0_takeFrom) (pc := 131) 10 kX0 ha1 (by decide +kernel) rfl tw_354 dX0_takeFrom_131 ?_
  refine V_pi (Y := m_X0_takeFrom) (pc := 134) 10 kX0 ha0 (by decide +kernel) rfl rfl rfl tw_354 dX0_takeFrom_134 ?_
  refine V_aload_n (Y := m_X0_takeFrom) (pc := 137) 0 dX0_takeFrom_137 rfl ?_
  refine V_aload_n (Y := m_X0_takeFrom) (pc := 138) 1 dX0_takeFrom_138 rfl ?_
  refine V_gi (Y := m_X0_takeFrom) (pc := 139) 11 kX0 ha1 (by decide +kernel) rfl tw_356 dX0_takeFrom_139 ?_
  refine V_pi (Y := m_X0_takeFrom) (pc := 142) 11 kX0 ha0 (by decide +kernel) rfl rfl rfl tw_356 dX0_takeFrom_142 ?_
  exact V_sub [0, 1] rfl (ok_X0_takeFrom_bc145_4  a0 a1 (mset (mset (mset M a0 9 (M a1 9)) a0 10 ((mset M a0 9 (M a1 9)) a1 10)) a0 11 ((mset (mset M a0 9 (M a1 9)) a0 10 ((mset M a0 9 (M a1 9)) a1 10)) a1 11)) z ha0 ha1 hf)
def f_X0_takeFrom_bc92_2  (a0 : Nat) (a1 : Nat) (M : Mem) : Option (Int32 × Mem) :=
  if cpyb (0 : Int32) (0 : Int32) (3 : Int32) 3 3 = true then
  if cpyb (0 : Int32) (0 : Int32) (9 : Int32) 9 9 = true then
  f_X0_takeFrom_bc121_3  a0 a1 (mcpy (mcpy M (rfC a1 7) (ix (0 : Int32)) (rfC a0 7) (ix (0 : Int32)) (ix (3 : Int32))) (rfC a1 8) (ix (0 : Int32)) (rfC a0 8) (ix (0 : Int32)) (ix (9 : Int32)))
  else none
  else none
set_option maxRecDepth 20000 in
set_option maxHeartbeats 4000000 in
theorem ok_X0_takeFrom_bc92_2 {l : Launch} {g : Gam} {b : Nat}   (a0 : Nat) (a1 : Nat) (M : Mem) (z : Int32 × Mem) (ha0 : shC[a0]? = some (1, 0)) (ha1 : shC[a1]? = some (1, 0)) (hf : f_X0_takeFrom_bc92_2 a0 a1 M = some z) : V l g (wC b) m_X0_takeFrom 92 [(0, .ref (b + a0)), (1, .ref (b + a1))] [] M none z.2 := by
  unfold f_X0_takeFrom_bc92_2 at hf
  refine V_aload_n (Y := m_X0_takeFrom) (pc := 92) 1 dX0_takeFrom_92 rfl ?_
  refine V_gr (Y := m_X0_takeFrom) (pc := 93) 7 kX0 ha1 (by decide +kernel) rfl tw_346 dX0_takeFrom_93 ?_
  refine V_iconst (Y := m_X0_takeFrom) (pc := 96) (x := (0 : Int32)) dX0_takeFrom_96 (by decide +kernel) ?_
  refine V_aload_n (Y := m_X0_takeFrom) (pc := 97) 0 dX0_takeFrom_97 rfl ?_
  refine V_gr (Y := m_X0_takeFrom) (pc := 98) 7 kX0 ha0 (by decide +kernel) rfl tw_346 dX0_takeFrom_98 ?_
  refine V_iconst (Y := m_X0_takeFrom) (pc := 101) (x := (0 : Int32)) dX0_takeFrom_101 (by decide +kernel) ?_
  refine V_iconst (Y := m_X0_takeFrom) (pc := 102) (x := (3 : Int32)) dX0_takeFrom_102 (by decide +kernel) ?_
  obtain ⟨hi1, hf⟩ := g_if hf
  refine V_copy (Y := m_X0_takeFrom) (pc := 103) (by decide +kernel) j_copy tw_1051 (Nat.le_of_ble_eq_true rfl) (wtC.1 _ _ ha1 7 _ rfl) (wtC.1 _ _ ha0 7 _ rfl) hi1 dX0_takeFrom_103 ?_
  refine V_aload_n (Y := m_X0_takeFrom) (pc := 106) 1 dX0_takeFrom_106 rfl ?_
  refine V_gr (Y := m_X0_takeFrom) (pc := 107) 8 kX0 ha1 (by decide +kernel) rfl tw_348 dX0_takeFrom_107 ?_
  refine V_iconst (Y := m_X0_takeFrom) (pc := 110) (x := (0 : Int32)) dX0_takeFrom_110 (by decide +kernel) ?_
  refine V_aload_n (Y := m_X0_takeFrom) (pc := 111) 0 dX0_takeFrom_111 rfl ?_
  refine V_gr (Y := m_X0_takeFrom) (pc := 112) 8 kX0 ha0 (by decide +kernel) rfl tw_348 dX0_takeFrom_112 ?_
  refine V_iconst (Y := m_X0_takeFrom) (pc := 115) (x := (0 : Int32)) dX0_takeFrom_115 (by decide +kernel) ?_
  refine V_bipush (Y := m_X0_takeFrom) (pc := 116) (x := (9 : Int32)) dX0_takeFrom_116 (by decide +kernel) ?_
  obtain ⟨hi2, hf⟩ := g_if hf
  refine V_copy (Y := m_X0_takeFrom) (pc := 118) (by decide +kernel) j_copy tw_1051 (Nat.le_of_ble_eq_true rfl) (wtC.1 _ _ ha1 8 _ rfl) (wtC.1 _ _ ha0 8 _ rfl) hi2 dX0_takeFrom_118 ?_
  exact V_sub [0, 1] rfl (ok_X0_takeFrom_bc121_3  a0 a1 (mcpy (mcpy M (rfC a1 7) (ix (0 : Int32)) (rfC a0 7) (ix (0 : Int32)) (ix (3 : Int32))) (rfC a1 8) (ix (0 : Int32)) (rfC a0 8) (ix (0 : Int32)) (ix (9 : Int32))) z ha0 ha1 hf)
def f_X0_takeFrom_bc63_1  (a0 : Nat) (a1 : Nat) (M : Mem) : Option (Int32 × Mem) :=
  if cpyb (0 : Int32) (0 : Int32) (20 : Int32) 20 20 = true then
  if cpyb (0 : Int32) (0 : Int32) (3 : Int32) 3 3 = true then
  f_X0_takeFrom_bc92_2  a0 a1 (mcpy (mcpy M (rfC a1 5) (ix (0 : Int32)) (rfC a0 5) (ix (0 : Int32)) (ix (20 : Int32))) (rfC a1 6) (ix (0 : Int32)) (rfC a0 6) (ix (0 : Int32)) (ix (3 : Int32)))
  else none
  else none
set_option maxRecDepth 20000 in
set_option maxHeartbeats 4000000 in
theorem ok_X0_takeFrom_bc63_1 {l : Launch} {g : Gam} {b : Nat}   (a0 : Nat) (a1 : Nat) (M : Mem) (z : Int32 × Mem) (ha0 : shC[a0]? = some (1, 0)) (ha1 : shC[a1]? = some (1, 0)) (hf : f_X0_takeFrom_bc63_1 a0 a1 M = some z) : V l g (wC b) m_X0_takeFrom 63 [(0, .ref (b + a0)), (1, .ref (b + a1))] [] M none z.2 := by
  unfold f_X0_takeFrom_bc63_1 at hf
  refine V_aload_n (Y := m_X0_takeFrom) (pc := 63) 1 dX0_takeFrom_63 rfl ?_
  refine V_gr (Y := m_X0_takeFrom) (pc := 64) 5 kX0 ha1 (by decide +kernel) rfl tw_342 dX0_takeFrom_64 ?_
  refine V_iconst (Y := m_X0_takeFrom) (pc := 67) (x := (0 : Int32)) dX0_takeFrom_67 (by decide +kernel) ?_
  refine V_aload_n (Y := m_X0_takeFrom) (pc := 68) 0 dX0_takeFrom_68 rfl ?_
  refine V_gr (Y := m_X0_takeFrom) (pc := 69) 5 kX0 ha0 (by decide +kernel) rfl tw_342 dX0_takeFrom_69 ?_
  refine V_iconst (Y := m_X0_takeFrom) (pc := 72) (x := (0 : Int32)) dX0_takeFrom_72 (by decide +kernel) ?_
  refine V_bipush (Y := m_X0_takeFrom) (pc := 73) (x := (20 : Int32)) dX0_takeFrom_73 (by decide +kernel) ?_
  obtain ⟨hi1, hf⟩ := g_if hf
  refine V_copy (Y := m_X0_takeFrom) (pc := 75) (by decide +kernel) j_copy tw_1051 (Nat.le_of_ble_eq_true rfl) (wtC.1 _ _ ha1 5 _ rfl) (wtC.1 _ _ ha0 5 _ rfl) hi1 dX0_takeFrom_75 ?_
  refine V_aload_n (Y := m_X0_takeFrom) (pc := 78) 1 dX0_takeFrom_78 rfl ?_
  refine V_gr (Y := m_X0_takeFrom) (pc := 79) 6 kX0 ha1 (by decide +kernel) rfl tw_344 dX0_takeFrom_79 ?_
  refine V_iconst (Y := m_X0_takeFrom) (pc := 82) (x := (0 : Int32)) dX0_takeFrom_82 (by decide +kernel) ?_
  refine V_aload_n (Y := m_X0_takeFrom) (pc := 83) 0 dX0_takeFrom_83 rfl ?_
  refine V_gr (Y := m_X0_takeFrom) (pc := 84) 6 kX0 ha0 (by decide +kernel) rfl tw_344 dX0_takeFrom_84 ?_
  refine V_iconst (Y := m_X0_takeFrom) (pc := 87) (x := (0 : Int32)) dX0_takeFrom_87 (by decide +kernel) ?_
  refine V_iconst (Y := m_X0_takeFrom) (pc := 88) (x := (3 : Int32)) dX0_takeFrom_88 (by decide +kernel) ?_
  obtain ⟨hi2, hf⟩ := g_if hf
  refine V_copy (Y := m_X0_takeFrom) (pc := 89) (by decide +kernel) j_copy tw_1051 (Nat.le_of_ble_eq_true rfl) (wtC.1 _ _ ha1 6 _ rfl) (wtC.1 _ _ ha0 6 _ rfl) hi2 dX0_takeFrom_89 ?_
  exact V_sub [0, 1] rfl (ok_X0_takeFrom_bc92_2  a0 a1 (mcpy (mcpy M (rfC a1 5) (ix (0 : Int32)) (rfC a0 5) (ix (0 : Int32)) (ix (20 : Int32))) (rfC a1 6) (ix (0 : Int32)) (rfC a0 6) (ix (0 : Int32)) (ix (3 : Int32))) z ha0 ha1 hf)
def f_X0_takeFrom_b31  (a0 : Nat) (a1 : Nat) (M : Mem) : Option (Int32 × Mem) :=
  if cpyb (0 : Int32) (0 : Int32) (15 : Int32) 15 15 = true then
  if cpyb (0 : Int32) (0 : Int32) (3 : Int32) 3 3 = true then
  f_X0_takeFrom_bc63_1  a0 a1 (mcpy (mcpy M (rfC a1 3) (ix (0 : Int32)) (rfC a0 3) (ix (0 : Int32)) (ix (15 : Int32))) (rfC a1 4) (ix (0 : Int32)) (rfC a0 4) (ix (0 : Int32)) (ix (3 : Int32)))
  else none
  else none
set_option maxRecDepth 20000 in
set_option maxHeartbeats 4000000 in
theorem ok_X0_takeFrom_b31 {l : Launch} {g : Gam} {b : Nat}   (a0 : Nat) (a1 : Nat) (M : Mem) (z : Int32 × Mem) (ha0 : shC[a0]? = some (1, 0)) (ha1 : shC[a1]? = some (1, 0)) (hf : f_X0_takeFrom_b31 a0 a1 M = some z) : V l g (wC b) m_X0_takeFrom 31 [(0, .ref (b + a0)), (1, .ref (b + a1))] [] M none z.2 := by
  unfold f_X0_takeFrom_b31 at hf
  refine V_aload_n (Y := m_X0_takeFrom) (pc := 31) 1 dX0_takeFrom_31 rfl ?_
  refine V_gr (Y := m_X0_takeFrom) (pc := 32) 3 kX0 ha1 (by decide +kernel) rfl tw_336 dX0_takeFrom_32 ?_
  refine V_iconst (Y := m_X0_takeFrom) (pc := 35) (x := (0 : Int32)) dX0_takeFrom_35 (by decide +kernel) ?_
  refine V_aload_n (Y := m_X0_takeFrom) (pc := 36) 0 dX0_takeFrom_36 rfl ?_
  refine V_gr (Y := m_X0_takeFrom) (pc := 37) 3 kX0 ha0 (by decide +kernel) rfl tw_336 dX0_takeFrom_37 ?_
  refine V_iconst (Y := m_X0_takeFrom) (pc := 40) (x := (0 : Int32)) dX0_takeFrom_40 (by decide +kernel) ?_
  refine V_aload_n (Y := m_X0_takeFrom) (pc := 41) 0 dX0_takeFrom_41 rfl ?_
  refine V_gr (Y := m_X0_takeFrom) (pc := 42) 3 kX0 ha0 (by decide +kernel) rfl tw_336 dX0_takeFrom_42 ?_
  refine V_alen (Y := m_X0_takeFrom) (pc := 45) (x := (15 : Int32)) (wtC.1 _ _ ha0 3 _ rfl) (by decide +kernel) dX0_takeFrom_45 ?_
  obtain ⟨hi1, hf⟩ := g_if hf
  refine V_copy (Y := m_X0_takeFrom) (pc := 46) (by decide +kernel) j_copy tw_1051 (Nat.le_of_ble_eq_true rfl) (wtC.1 _ _ ha1 3 _ rfl) (wtC.1 _ _ ha0 3 _ rfl) hi1 dX0_takeFrom_46 ?_
  refine V_aload_n (Y := m_X0_takeFrom) (pc := 49) 1 dX0_takeFrom_49 rfl ?_
  refine V_gr (Y := m_X0_takeFrom) (pc := 50) 4 kX0 ha1 (by decide +kernel) rfl tw_339 dX0_takeFrom_50 ?_
  refine V_iconst (Y := m_X0_takeFrom) (pc := 53) (x := (0 : Int32)) dX0_takeFrom_53 (by decide +kernel) ?_
  refine V_aload_n (Y := m_X0_takeFrom) (pc := 54) 0 dX0_takeFrom_54 rfl ?_
  refine V_gr (Y := m_X0_takeFrom) (pc := 55) 4 kX0 ha0 (by decide +kernel) rfl tw_339 dX0_takeFrom_55 ?_
  refine V_iconst (Y := m_X0_takeFrom) (pc := 58) (x := (0 : Int32)) dX0_takeFrom_58 (by decide +kernel) ?_
  refine V_iconst (Y := m_X0_takeFrom) (pc := 59) (x := (3 : Int32)) dX0_takeFrom_59 (by decide +kernel) ?_
  obtain ⟨hi2, hf⟩ := g_if hf
  refine V_copy (Y := m_X0_takeFrom) (pc := 60) (by decide +kernel) j_copy tw_1051 (Nat.le_of_ble_eq_true rfl) (wtC.1 _ _ ha1 4 _ rfl) (wtC.1 _ _ ha0 4 _ rfl) hi2 dX0_takeFrom_60 ?_
  exact V_sub [0, 1] rfl (ok_X0_takeFrom_bc63_1  a0 a1 (mcpy (mcpy M (rfC a1 3) (ix (0 : Int32)) (rfC a0 3) (ix (0 : Int32)) (ix (15 : Int32))) (rfC a1 4) (ix (0 : Int32)) (rfC a0 4) (ix (0 : Int32)) (ix (3 : Int32))) z ha0 ha1 hf)
def f_X0_takeFrom_b2  : Nat → Nat → Nat → Int32 → Mem → Option (Int32 × Mem)
  | 0, _, _, _, _ => none
  | n + 1, a0, a1, x2, M =>
    if (M a1 9) ≤ x2 then
      f_X0_takeFrom_b31  a0 a1 M
    else
      if ixb x2 24 = true then
      if ixb x2 24 = true then
      (f_X2_takeFrom (rfC (rfC a0 0) (ix x2)) (rfC (rfC a1 0) (ix x2)) M).bind fun q3 =>
      f_X0_takeFrom_b2  n a0 a1 (x2 + (1 : Int32)) q3.2
      else none
      else none
set_option maxRecDepth 20000 in
set_option maxHeartbeats 4000000 in
theorem ok_X0_takeFrom_b2 {l : Launch} {g : Gam} {b : Nat}   : ∀ (n : Nat) (a0 : Nat) (a1 : Nat) (x2 : Int32) (M : Mem) (z : Int32 × Mem), (ha0 : shC[a0]? = some (1, 0)) → (ha1 : shC[a1]? = some (1, 0)) → f_X0_takeFrom_b2  n a0 a1 x2 M = some z → V l g (wC b) m_X0_takeFrom 2 [(0, .ref (b + a0)), (1, .ref (b + a1)), (2, .int x2)] [] M none z.2 := by
  intro n
  induction n with
  | zero =>
    intro a0 a1 x2 M z ha0 ha1 hf
    cases hf
  | succ n ih =>
    intro a0 a1 x2 M z ha0 ha1 hf
    rw [f_X0_takeFrom_b2] at hf
    refine V_iload_n (Y := m_X0_takeFrom) (pc := 2) 2 dX0_takeFrom_2 rfl ?_
    refine V_aload_n (Y := m_X0_takeFrom) (pc := 3) 1 dX0_takeFrom_3 rfl ?_
    refine V_gi (Y := m_X0_takeFrom) (pc := 4) 9 kX0 ha1 (by decide +kernel) rfl tw_350 dX0_takeFrom_4 ?_
    refine V_icmp_ge (Y := m_X0_takeFrom) (pc := 7) (tgt := 31) dX0_takeFrom_7 (by decide +kernel) hf (fun hf => ?_) (fun hf => ?_)
    · exact V_sub [0, 1] rfl (ok_X0_takeFrom_b31  a0 a1 M z ha0 ha1 hf)
    · refine V_aload_n (Y := m_X0_takeFrom) (pc := 10) 0 dX0_takeFrom_10 rfl ?_
      refine V_gr (Y := m_X0_takeFrom) (pc := 11) 0 kX0 ha0 (by decide +kernel) rfl tw_329 dX0_takeFrom_11 ?_
      refine V_iload_n (Y := m_X0_takeFrom) (pc := 14) 2 dX0_takeFrom_14 rfl ?_
      obtain ⟨hi1, hf⟩ := g_if hf
      refine V_aald (Y := m_X0_takeFrom) (pc := 15) 1 rfl (wtC.1 _ _ ha0 0 _ rfl) hi1 dX0_takeFrom_15 ?_
      refine V_aload_n (Y := m_X0_takeFrom) (pc := 16) 1 dX0_takeFrom_16 rfl ?_
      refine V_gr (Y := m_X0_takeFrom) (pc := 17) 0 kX0 ha1 (by decide +kernel) rfl tw_329 dX0_takeFrom_17 ?_
      refine V_iload_n (Y := m_X0_takeFrom) (pc := 20) 2 dX0_takeFrom_20 rfl ?_
      obtain ⟨hi2, hf⟩ := g_if hf
      refine V_aald (Y := m_X0_takeFrom) (pc := 21) 1 rfl (wtC.1 _ _ ha1 0 _ rfl) hi2 dX0_takeFrom_21 ?_
      obtain ⟨q3, hq3, hf⟩ := g_bind hf
      refine V_cVv (Y := m_X0_takeFrom) (pc := 22) (As := [.ref (b + (rfC (rfC a1 0) (ix x2)))]) yf_X2_takeFrom kX2 (wtC.2 _ _ _ (wtC.1 _ _ ha0 0 _ rfl) _ (ixb_lt hi1)) (by decide +kernel) (ok_X2_takeFrom (rfC (rfC a0 0) (ix x2)) (rfC (rfC a1 0) (ix x2)) M _ (wtC.2 _ _ _ (wtC.1 _ _ ha0 0 _ rfl) _ (ixb_lt hi1)) (wtC.2 _ _ _ (wtC.1 _ _ ha1 0 _ rfl) _ (ixb_lt hi2)) hq3) tw_1048 tw_1049 tw_1047 rfl rfl (Nat.le_of_ble_eq_true rfl) dX0_takeFrom_22 ?_
      refine V_iinc (Y := m_X0_takeFrom) (pc := 25) (y := (x2 + (1 : Int32))) 2 [(2, .int (x2 + (1 : Int32))), (0, .ref (b + a0)), (1, .ref (b + a1))] dX0_takeFrom_25 rfl rfl (by decide +kernel) rfl ?_
      refine V_goto (Y := m_X0_takeFrom) (pc := 28) (tgt := 2) dX0_takeFrom_28 (by decide +kernel) ?_
      exact V_sub [1, 2, 0] rfl (ih a0 a1 (x2 + (1 : Int32)) q3.2 z ha0 ha1 hf)
def f_X0_takeFrom_b0  (a0 : Nat) (a1 : Nat) (M : Mem) : Option (Int32 × Mem) :=
  f_X0_takeFrom_b2  FU a0 a1 (0 : Int32) M
set_option maxRecDepth 20000 in
set_option maxHeartbeats 4000000 in
theorem ok_X0_takeFrom_b0 {l : Launch} {g : Gam} {b : Nat}   (a0 : Nat) (a1 : Nat) (M : Mem) (z : Int32 × Mem) (ha0 : shC[a0]? = some (1, 0)) (ha1 : shC[a1]? = some (1, 0)) (hf : f_X0_takeFrom_b0 a0 a1 M = some z) : V l g (wC b) m_X0_takeFrom 0 [(0, .ref (b + a0)), (1, .ref (b + a1))] [] M none z.2 := by
  unfold f_X0_takeFrom_b0 at hf
  refine V_iconst (Y := m_X0_takeFrom) (pc := 0) (x := (0 : Int32)) dX0_takeFrom_0 (by decide +kernel) ?_
  refine V_istore_n (Y := m_X0_takeFrom) (pc := 1) [(2, .int (0 : Int32)), (0, .ref (b + a0)), (1, .ref (b + a1))] dX0_takeFrom_1 (by decide +kernel) rfl ?_
  exact V_sub [1, 2, 0] rfl (ok_X0_takeFrom_b2  FU a0 a1 (0 : Int32) M z ha0 ha1 hf)
def f_X0_takeFrom (a0 : Nat) (a1 : Nat) (M : Mem) : Option (Int32 × Mem) := f_X0_takeFrom_b0 a0 a1 M
set_option maxRecDepth 20000 in
set_option maxHeartbeats 4000000 in
theorem ok_X0_takeFrom {l : Launch} {g : Gam} {b : Nat} : ∀ (a0 : Nat) (a1 : Nat) (M : Mem) (z : Int32 × Mem), shC[a0]? = some (1, 0) → shC[a1]? = some (1, 0) → f_X0_takeFrom a0 a1 M = some z → Cn l g (wC b) m_X0_takeFrom [.ref (b + a0), .ref (b + a1)] M none z.2 := fun a0 a1 M z ha0 ha1 hf => Cn_of (by decide +kernel) (Nat.le_of_ble_eq_true rfl) (V_sub [0, 1] rfl (ok_X0_takeFrom_b0 a0 a1 M z ha0 ha1 hf))

abbrev m_X2_become : Mth := (yX2_become, cX2_become, 5, none, 1)
theorem yf_X2_become : YF m_X2_become 4 := ⟨tw_491, tw_72, by decide +kernel, by decide +kernel⟩
def f_X2_become_bc32_1  (a0 : Nat) (M : Mem) : Option (Int32 × Mem) :=
  some (0, (mset (mset M a0 5 (-1000000005 : Int32)) a0 6 (-1000000005 : Int32)))
set_option maxRecDepth 20000 in
set_option maxHeartbeats 4000000 in
theorem ok_X2_become_bc32_1 {l : Launch} {g : Gam} {b : Nat}   (a0 : Nat) (M : Mem) (z : Int32 × Mem) (ha0 : shC[a0]? = some (1, 2)) (hf : f_X2_become_bc32_1 a0 M = some z) : V l g (wC b) m_X2_become 32 [(0, .ref (b + a0))] [] M none z.2 := by
  unfold f_X2_become_bc32_1 at hf
  refine V_aload_n (Y := m_X2_become) (pc := 32) 0 dX2_become_32 rfl ?_
  refine V_ldc (Y := m_X2_become) (pc := 33) (x := (-1000000005 : Int32)) dX2_become_33 tw_492 ?_
  refine V_pi (Y := m_X2_become) (pc := 35) 5 kX2 ha0 (by decide +kernel) rfl rfl rfl tw_305 dX2_become_35 ?_
  refine V_aload_n (Y := m_X2_become) (pc := 38) 0 dX2_become_38 rfl ?_
  refine V_ldc (Y := m_X2_become) (pc := 39) (x := (-1000000005 : Int32)) dX2_become_39 tw_492 ?_
  refine V_pi (Y := m_X2_become) (pc := 41) 6 kX2 ha0 (by decide +kernel) rfl rfl rfl tw_310 dX2_become_41 ?_
  obtain rfl := Option.some.inj hf
  exact V_vret (Y := m_X2_become) rfl dX2_become_44
def f_X2_become_b0  (a0 : Nat) (x1 : Int32) (x2 : Int32) (x3 : Int32) (x4 : Int32) (M : Mem) : Option (Int32 × Mem) :=
  f_X2_become_bc32_1  a0 (mset (mset (mset (mset (mset M a0 0 x1) a0 1 (x2 / (100 : Int32))) a0 2 (irem x2 (100 : Int32))) a0 3 x3) a0 4 x4)
set_option maxRecDepth 20000 in
set_option maxHeartbeats 4000000 in
theorem ok_X2_become_b0 {l : Launch} {g : Gam} {b : Nat}   (a0 : Nat) (x1 : Int32) (x2 : Int32) (x3 : Int32) (x4 : Int32) (M : Mem) (z : Int32 × Mem) (ha0 : shC[a0]? = some (1, 2)) (hf : f_X2_become_b0 a0 x1 x2 x3 x4 M = some z) : V l g (wC b) m_X2_become 0 [(0, .ref (b + a0)), (1, .int x1), (2, .int x2), (3, .int x3), (4, .int x4)] [] M none z.2 := by
  unfold f_X2_become_b0 at hf
  refine V_aload_n (Y := m_X2_become) (pc := 0) 0 dX2_become_0 rfl ?_
  refine V_iload_n (Y := m_X2_become) (pc := 1) 1 dX2_become_1 rfl ?_
  refine V_pi (Y := m_X2_become) (pc := 2) 0 kX2 ha0 (by decide +kernel) rfl rfl rfl tw_282 dX2_become_2 ?_
  refine V_aload_n (Y := m_X2_become) (pc := 5) 0 dX2_become_5 rfl ?_
  refine V_iload_n (Y := m_X2_become) (pc := 6) 2 dX2_become_6 rfl ?_
  refine V_bipush (Y := m_X2_become) (pc := 7) (x := (100 : Int32)) dX2_become_7 (by decide +kernel) ?_
  refine V_idiv (Y := m_X2_become) (pc := 9) dX2_become_9 (by decide +kernel) ?_
  refine V_pi (Y := m_X2_become) (pc := 10) 1 kX2 ha0 (by decide +kernel) rfl rfl rfl tw_286 dX2_become_10 ?_
  refine V_aload_n (Y := m_X2_become) (pc := 13) 0 dX2_become_13 rfl ?_
  refine V_iload_n (Y := m_X2_become) (pc := 14) 2 dX2_become_14 rfl ?_
  refine V_bipush (Y := m_X2_become) (pc := 15) (x := (100 : Int32)) dX2_become_15 (by decide +kernel) ?_
  refine V_irem (Y := m_X2_become) (pc := 17) dX2_become_17 (by decide +kernel) ?_
  refine V_pi (Y := m_X2_become) (pc := 18) 2 kX2 ha0 (by decide +kernel) rfl rfl rfl tw_291 dX2_become_18 ?_
  refine V_aload_n (Y := m_X2_become) (pc := 21) 0 dX2_become_21 rfl ?_
  refine V_iload_n (Y := m_X2_become) (pc := 22) 3 dX2_become_22 rfl ?_
  refine V_pi (Y := m_X2_become) (pc := 23) 3 kX2 ha0 (by decide +kernel) rfl rfl rfl tw_296 dX2_become_23 ?_
  refine V_aload_n (Y := m_X2_become) (pc := 26) 0 dX2_become_26 rfl ?_
  refine V_iload (Y := m_X2_become) (pc := 27) 4 dX2_become_27 rfl ?_
  refine V_pi (Y := m_X2_become) (pc := 29) 4 kX2 ha0 (by decide +kernel) rfl rfl rfl tw_301 dX2_become_29 ?_
  exact V_sub [0] rfl (ok_X2_become_bc32_1  a0 (mset (mset (mset (mset (mset M a0 0 x1) a0 1 (x2 / (100 : Int32))) a0 2 (irem x2 (100 : Int32))) a0 3 x3) a0 4 x4) z ha0 hf)
def f_X2_become (a0 : Nat) (x1 : Int32) (x2 : Int32) (x3 : Int32) (x4 : Int32) (M : Mem) : Option (Int32 × Mem) := f_X2_become_b0 a0 x1 x2 x3 x4 M
set_option maxRecDepth 20000 in
set_option maxHeartbeats 4000000 in
theorem ok_X2_become {l : Launch} {g : Gam} {b : Nat} : ∀ (a0 : Nat) (x1 : Int32) (x2 : Int32) (x3 : Int32) (x4 : Int32) (M : Mem) (z : Int32 × Mem), shC[a0]? = some (1, 2) → f_X2_become a0 x1 x2 x3 x4 M = some z → Cn l g (wC b) m_X2_become [.ref (b + a0), .int x1, .int x2, .int x3, .int x4] M none z.2 := fun a0 x1 x2 x3 x4 M z ha0 hf => Cn_of (by decide +kernel) (Nat.le_of_ble_eq_true rfl) (V_sub [0, 1, 2, 3, 4] rfl (ok_X2_become_b0 a0 x1 x2 x3 x4 M z ha0 hf))

abbrev m_X0_addMark : Mth := (yX0_addMark, cX0_addMark, 5, some .int, 2)
theorem yf_X0_addMark : YF m_X0_addMark 4 := ⟨tw_486, tw_71, by decide +kernel, by decide +kernel⟩
def f_X0_addMark_b0  (a0 : Nat) (x1 : Int32) (x2 : Int32) (x3 : Int32) (x4 : Int32) (M : Mem) : Option (Int32 × Mem) :=
  if (M a0 9) < (24 : Int32) then
    if ixb (M a0 9) 24 = true then
    (f_X2_become (rfC (rfC a0 0) (ix (M a0 9))) x1 x2 x3 x4 M).bind fun q2 =>
    some ((((mset q2.2 a0 9 ((q2.2 a0 9) + (1 : Int32))) a0 9) - (1 : Int32)), (mset q2.2 a0 9 ((q2.2 a0 9) + (1 : Int32))))
    else none
  else
    some ((-1000000003 : Int32), M)
set_option maxRecDepth 20000 in
set_option maxHeartbeats 4000000 in
theorem ok_X0_addMark_b0 {l : Launch} {g : Gam} {b : Nat}   (a0 : Nat) (x1 : Int32) (x2 : Int32) (x3 : Int32) (x4 : Int32) (M : Mem) (z : Int32 × Mem) (ha0 : shC[a0]? = some (1, 0)) (hf : f_X0_addMark_b0 a0 x1 x2 x3 x4 M = some z) : V l g (wC b) m_X0_addMark 0 [(0, .ref (b + a0)), (1, .int x1), (2, .int x2), (3, .int x3), (4, .int x4)] [] M (some (.int z.1)) z.2 := by
  unfold f_X0_addMark_b0 at hf
  refine V_aload_n (Y := m_X0_addMark) (pc := 0) 0 dX0_addMark_0 rfl ?_
  refine V_gi (Y := m_X0_addMark) (pc := 1) 9 kX0 ha0 (by decide +kernel) rfl tw_350 dX0_addMark_1 ?_
  refine V_bipush (Y := m_X0_addMark) (pc := 4) (x := (24 : Int32)) dX0_addMark_4 (by decide +kernel) ?_
  refine V_icmp_lt (Y := m_X0_addMark) (pc := 6) (tgt := 12) dX0_addMark_6 (by decide +kernel) hf (fun hf => ?_) (fun hf => ?_)
  · refine V_aload_n (Y := m_X0_addMark) (pc := 12) 0 dX0_addMark_12 rfl ?_
    refine V_gr (Y := m_X0_addMark) (pc := 13) 0 kX0 ha0 (by decide +kernel) rfl tw_329 dX0_addMark_13 ?_
    refine V_aload_n (Y := m_X0_addMark) (pc := 16) 0 dX0_addMark_16 rfl ?_
    refine V_gi (Y := m_X0_addMark) (pc := 17) 9 kX0 ha0 (by decide +kernel) rfl tw_350 dX0_addMark_17 ?_
    obtain ⟨hi1, hf⟩ := g_if hf
    refine V_aald (Y := m_X0_addMark) (pc := 20) 1 rfl (wtC.1 _ _ ha0 0 _ rfl) hi1 dX0_addMark_20 ?_
    refine V_iload_n (Y := m_X0_addMark) (pc := 21) 1 dX0_addMark_21 rfl ?_
    refine V_iload_n (Y := m_X0_addMark) (pc := 22) 2 dX0_addMark_22 rfl ?_
    refine V_iload_n (Y := m_X0_addMark) (pc := 23) 3 dX0_addMark_23 rfl ?_
    refine V_iload (Y := m_X0_addMark) (pc := 24) 4 dX0_addMark_24 rfl ?_
    obtain ⟨q2, hq2, hf⟩ := g_bind hf
    refine V_cVv (Y := m_X0_addMark) (pc := 26) (As := [.int x1, .int x2, .int x3, .int x4]) yf_X2_become kX2 (wtC.2 _ _ _ (wtC.1 _ _ ha0 0 _ rfl) _ (ixb_lt hi1)) (by decide +kernel) (ok_X2_become (rfC (rfC a0 0) (ix (M a0 9))) x1 x2 x3 x4 M _ (wtC.2 _ _ _ (wtC.1 _ _ ha0 0 _ rfl) _ (ixb_lt hi1)) hq2) tw_489 tw_490 tw_488 rfl rfl (Nat.le_of_ble_eq_true rfl) dX0_addMark_26 ?_
    refine V_aload_n (Y := m_X0_addMark) (pc := 29) 0 dX0_addMark_29 rfl ?_
    refine V_dup (Y := m_X0_addMark) (pc := 30) dX0_addMark_30 rfl ?_
    refine V_gi (Y := m_X0_addMark) (pc := 31) 9 kX0 ha0 (by decide +kernel) rfl tw_350 dX0_addMark_31 ?_
    refine V_iconst (Y := m_X0_addMark) (pc := 34) (x := (1 : Int32)) dX0_addMark_34 (by decide +kernel) ?_
    refine V_iadd (Y := m_X0_addMark) (pc := 35) dX0_addMark_35 ?_
    refine V_pi (Y := m_X0_addMark) (pc := 36) 9 kX0 ha0 (by decide +kernel) rfl rfl rfl tw_350 dX0_addMark_36 ?_
    refine V_aload_n (Y := m_X0_addMark) (pc := 39) 0 dX0_addMark_39 rfl ?_
    refine V_gi (Y := m_X0_addMark) (pc := 40) 9 kX0 ha0 (by decide +kernel) rfl tw_350 dX0_addMark_40 ?_
    refine V_iconst (Y := m_X0_addMark) (pc := 43) (x := (1 : Int32)) dX0_addMark_43 (by decide +kernel) ?_
    refine V_isub (Y := m_X0_addMark) (pc := 44) dX0_addMark_44 ?_
    obtain rfl := Option.some.inj hf
    exact V_iret (Y := m_X0_addMark) rfl dX0_addMark_45
  · refine V_ldc (Y := m_X0_addMark) (pc := 9) (x := (-1000000003 : Int32)) dX0_addMark_9 tw_487 ?_
    obtain rfl := Option.some.inj hf
    exact V_iret (Y := m_X0_addMark) rfl dX0_addMark_11
def f_X0_addMark (a0 : Nat) (x1 : Int32) (x2 : Int32) (x3 : Int32) (x4 : Int32) (M : Mem) : Option (Int32 × Mem) := f_X0_addMark_b0 a0 x1 x2 x3 x4 M
set_option maxRecDepth 20000 in
set_option maxHeartbeats 4000000 in
theorem ok_X0_addMark {l : Launch} {g : Gam} {b : Nat} : ∀ (a0 : Nat) (x1 : Int32) (x2 : Int32) (x3 : Int32) (x4 : Int32) (M : Mem) (z : Int32 × Mem), shC[a0]? = some (1, 0) → f_X0_addMark a0 x1 x2 x3 x4 M = some z → Cn l g (wC b) m_X0_addMark [.ref (b + a0), .int x1, .int x2, .int x3, .int x4] M (some (.int z.1)) z.2 := fun a0 x1 x2 x3 x4 M z ha0 hf => Cn_of (by decide +kernel) (Nat.le_of_ble_eq_true rfl) (V_sub [0, 1, 2, 3, 4] rfl (ok_X0_addMark_b0 a0 x1 x2 x3 x4 M z ha0 hf))

abbrev m_X0_marksPut : Mth := (yX0_marksPut, cX0_marksPut, 3, some .int, 1)
theorem yf_X0_marksPut : YF m_X0_marksPut 0 := ⟨tw_1063, tw_71, by decide +kernel, by decide +kernel⟩
def f_X0_marksPut_b32 (k4 : Nat → Int32 → Int32 → Mem → Option (Int32 × Mem)) (a0 : Nat) (x2 : Int32) (s0 : Int32) (s1 : Int32) (M : Mem) : Option (Int32 × Mem) :=
  k4 a0 (s1 + s0) (x2 + (1 : Int32)) M
set_option maxRecDepth 20000 in
set_option maxHeartbeats 4000000 in
theorem ok_X0_marksPut_b32 {l : Launch} {g : Gam} {b : Nat} (k4 : Nat → Int32 → Int32 → Mem → Option (Int32 × Mem)) (hk4 : ∀ (a0 : Nat) (x1 : Int32) (x2 : Int32) (M : Mem) (z : Int32 × Mem), shC[a0]? = some (1, 0) → k4 a0 x1 x2 M = some z → V l g (wC b) m_X0_marksPut 4 [(0, .ref (b + a0)), (1, .int x1), (2, .int x2)] [] M (some (.int z.1)) z.2) (a0 : Nat) (x2 : Int32) (s0 : Int32) (s1 : Int32) (M : Mem) (z : Int32 × Mem) (ha0 : shC[a0]? = some (1, 0)) (hf : f_X0_marksPut_b32 k4 a0 x2 s0 s1 M = some z) : V l g (wC b) m_X0_marksPut 32 [(0, .ref (b + a0)), (2, .int x2)] [.int s0, .int s1] M (some (.int z.1)) z.2 := by
  unfold f_X0_marksPut_b32 at hf
  refine V_iadd (Y := m_X0_marksPut) (pc := 32) dX0_marksPut_32 ?_
  refine V_istore_n (Y := m_X0_marksPut) (pc := 33) [(1, .int (s1 + s0)), (0, .ref (b + a0)), (2, .int x2)] dX0_marksPut_33 (by decide +kernel) rfl ?_
  refine V_iinc (Y := m_X0_marksPut) (pc := 34) (y := (x2 + (1 : Int32))) 2 [(2, .int (x2 + (1 : Int32))), (1, .int (s1 + s0)), (0, .ref (b + a0))] dX0_marksPut_34 rfl rfl (by decide +kernel) rfl ?_
  refine V_goto (Y := m_X0_marksPut) (pc := 37) (tgt := 4) dX0_marksPut_37 (by decide +kernel) ?_
  exact V_sub [2, 1, 0] rfl (hk4 a0 (s1 + s0) (x2 + (1 : Int32)) M z ha0 hf)
def f_X0_marksPut_b4  : Nat → Nat → Int32 → Int32 → Mem → Option (Int32 × Mem)
  | 0, _, _, _, _ => none
  | n + 1, a0, x1, x2, M =>
    if (M a0 9) ≤ x2 then
      some (x1, M)
    else
      if ixb x2 24 = true then
      if (M (rfC (rfC a0 0) (ix x2)) 5) = (-1000000005 : Int32) then
        f_X0_marksPut_b32 (f_X0_marksPut_b4  n) a0 x2 (0 : Int32) x1 M
      else
        f_X0_marksPut_b32 (f_X0_marksPut_b4  n) a0 x2 (1 : Int32) x1 M
      else none
set_option maxRecDepth 20000 in
set_option maxHeartbeats 4000000 in
theorem ok_X0_marksPut_b4 {l : Launch} {g : Gam} {b : Nat}   : ∀ (n : Nat) (a0 : Nat) (x1 : Int32) (x2 : Int32) (M : Mem) (z : Int32 × Mem), (ha0 : shC[a0]? = some (1, 0)) → f_X0_marksPut_b4  n a0 x1 x2 M = some z → V l g (wC b) m_X0_marksPut 4 [(0, .ref (b + a0)), (1, .int x1), (2, .int x2)] [] M (some (.int z.1)) z.2 := by
  intro n
  induction n with
  | zero =>
    intro a0 x1 x2 M z ha0 hf
    cases hf
  | succ n ih =>
    intro a0 x1 x2 M z ha0 hf
    rw [f_X0_marksPut_b4] at hf
    refine V_iload_n (Y := m_X0_marksPut) (pc := 4) 2 dX0_marksPut_4 rfl ?_
    refine V_aload_n (Y := m_X0_marksPut) (pc := 5) 0 dX0_marksPut_5 rfl ?_
    refine V_gi (Y := m_X0_marksPut) (pc := 6) 9 kX0 ha0 (by decide +kernel) rfl tw_350 dX0_marksPut_6 ?_
    refine V_icmp_ge (Y := m_X0_marksPut) (pc := 9) (tgt := 40) dX0_marksPut_9 (by decide +kernel) hf (fun hf => ?_) (fun hf => ?_)
    · refine V_iload_n (Y := m_X0_marksPut) (pc := 40) 1 dX0_marksPut_40 rfl ?_
      obtain rfl := Option.some.inj hf
      exact V_iret (Y := m_X0_marksPut) rfl dX0_marksPut_41
    · refine V_iload_n (Y := m_X0_marksPut) (pc := 12) 1 dX0_marksPut_12 rfl ?_
      refine V_aload_n (Y := m_X0_marksPut) (pc := 13) 0 dX0_marksPut_13 rfl ?_
      refine V_gr (Y := m_X0_marksPut) (pc := 14) 0 kX0 ha0 (by decide +kernel) rfl tw_329 dX0_marksPut_14 ?_
      refine V_iload_n (Y := m_X0_marksPut) (pc := 17) 2 dX0_marksPut_17 rfl ?_
      obtain ⟨hi1, hf⟩ := g_if hf
      refine V_aald (Y := m_X0_marksPut) (pc := 18) 1 rfl (wtC.1 _ _ ha0 0 _ rfl) hi1 dX0_marksPut_18 ?_
      refine V_gi (Y := m_X0_marksPut) (pc := 19) 5 kX2 (wtC.2 _ _ _ (wtC.1 _ _ ha0 0 _ rfl) _ (ixb_lt hi1)) (by decide +kernel) rfl tw_309 dX0_marksPut_19 ?_
      refine V_ldc (Y := m_X0_marksPut) (pc := 22) (x := (-1000000005 : Int32)) dX0_marksPut_22 tw_328 ?_
      refine V_icmp_eq (Y := m_X0_marksPut) (pc := 24) (tgt := 31) dX0_marksPut_24 (by decide +kernel) hf (fun hf => ?_) (fun hf => ?_)
      · refine V_iconst (Y := m_X0_marksPut) (pc := 31) (x := (0 : Int32)) dX0_marksPut_31 (by decide +kernel) ?_
        exact V_sub [0, 2] rfl (ok_X0_marksPut_b32 (f_X0_marksPut_b4  n) ih a0 x2 (0 : Int32) x1 M z ha0 hf)
      · refine V_iconst (Y := m_X0_marksPut) (pc := 27) (x := (1 : Int32)) dX0_marksPut_27 (by decide +kernel) ?_
        refine V_goto (Y := m_X0_marksPut) (pc := 28) (tgt := 32) dX0_marksPut_28 (by decide +kernel) ?_
        exact V_sub [0, 2] rfl (ok_X0_marksPut_b32 (f_X0_marksPut_b4  n) ih a0 x2 (1 : Int32) x1 M z ha0 hf)
def f_X0_marksPut_b0  (a0 : Nat) (M : Mem) : Option (Int32 × Mem) :=
  f_X0_marksPut_b4  FU a0 (0 : Int32) (0 : Int32) M
set_option maxRecDepth 20000 in
set_option maxHeartbeats 4000000 in
theorem ok_X0_marksPut_b0 {l : Launch} {g : Gam} {b : Nat}   (a0 : Nat) (M : Mem) (z : Int32 × Mem) (ha0 : shC[a0]? = some (1, 0)) (hf : f_X0_marksPut_b0 a0 M = some z) : V l g (wC b) m_X0_marksPut 0 [(0, .ref (b + a0))] [] M (some (.int z.1)) z.2 := by
  unfold f_X0_marksPut_b0 at hf
  refine V_iconst (Y := m_X0_marksPut) (pc := 0) (x := (0 : Int32)) dX0_marksPut_0 (by decide +kernel) ?_
  refine V_istore_n (Y := m_X0_marksPut) (pc := 1) [(1, .int (0 : Int32)), (0, .ref (b + a0))] dX0_marksPut_1 (by decide +kernel) rfl ?_
  refine V_iconst (Y := m_X0_marksPut) (pc := 2) (x := (0 : Int32)) dX0_marksPut_2 (by decide +kernel) ?_
  refine V_istore_n (Y := m_X0_marksPut) (pc := 3) [(2, .int (0 : Int32)), (1, .int (0 : Int32)), (0, .ref (b + a0))] dX0_marksPut_3 (by decide +kernel) rfl ?_
  exact V_sub [2, 1, 0] rfl (ok_X0_marksPut_b4  FU a0 (0 : Int32) (0 : Int32) M z ha0 hf)
def f_X0_marksPut (a0 : Nat) (M : Mem) : Option (Int32 × Mem) := f_X0_marksPut_b0 a0 M
set_option maxRecDepth 20000 in
set_option maxHeartbeats 4000000 in
theorem ok_X0_marksPut {l : Launch} {g : Gam} {b : Nat} : ∀ (a0 : Nat) (M : Mem) (z : Int32 × Mem), shC[a0]? = some (1, 0) → f_X0_marksPut a0 M = some z → Cn l g (wC b) m_X0_marksPut [.ref (b + a0)] M (some (.int z.1)) z.2 := fun a0 M z ha0 hf => Cn_of (by decide +kernel) (Nat.le_of_ble_eq_true rfl) (V_sub [0] rfl (ok_X0_marksPut_b0 a0 M z ha0 hf))

abbrev m_X0_textFor : Mth := (yX0_textFor, cX0_textFor, 4, some .int, 1)
theorem yf_X0_textFor : YF m_X0_textFor 2 := ⟨tw_512, tw_71, by decide +kernel, by decide +kernel⟩
def f_X0_textFor_b39 (k7 : Nat → Int32 → Int32 → Int32 → Mem → Option (Int32 × Mem)) (a0 : Nat) (x1 : Int32) (x2 : Int32) (x3 : Int32) (M : Mem) : Option (Int32 × Mem) :=
  k7 a0 x1 x2 (x3 + (-1 : Int32)) M
set_option maxRecDepth 20000 in
set_option maxHeartbeats 4000000 in
theorem ok_X0_textFor_b39 {l : Launch} {g : Gam} {b : Nat} (k7 : Nat → Int32 → Int32 → Int32 → Mem → Option (Int32 × Mem)) (hk7 : ∀ (a0 : Nat) (x1 : Int32) (x2 : Int32) (x3 : Int32) (M : Mem) (z : Int32 × Mem), shC[a0]? = some (1, 0) → k7 a0 x1 x2 x3 M = some z → V l g (wC b) m_X0_textFor 7 [(0, .ref (b + a0)), (1, .int x1), (2, .int x2), (3, .int x3)] [] M (some (.int z.1)) z.2) (a0 : Nat) (x1 : Int32) (x2 : Int32) (x3 : Int32) (M : Mem) (z : Int32 × Mem) (ha0 : shC[a0]? = some (1, 0)) (hf : f_X0_textFor_b39 k7 a0 x1 x2 x3 M = some z) : V l g (wC b) m_X0_textFor 39 [(0, .ref (b + a0)), (1, .int x1), (2, .int x2), (3, .int x3)] [] M (some (.int z.1)) z.2 := by
  unfold f_X0_textFor_b39 at hf
  refine V_iinc (Y := m_X0_textFor) (pc := 39) (y := (x3 + (-1 : Int32))) 3 [(3, .int (x3 + (-1 : Int32))), (0, .ref (b + a0)), (1, .int x1), (2, .int x2)] dX0_textFor_39 rfl rfl (by decide +kernel) rfl ?_
  refine V_goto (Y := m_X0_textFor) (pc := 42) (tgt := 7) dX0_textFor_42 (by decide +kernel) ?_
  exact V_sub [1, 2, 3, 0] rfl (hk7 a0 x1 x2 (x3 + (-1 : Int32)) M z ha0 hf)
def f_X0_textFor_b7  : Nat → Nat → Int32 → Int32 → Int32 → Mem → Option (Int32 × Mem)
  | 0, _, _, _, _, _ => none
  | n + 1, a0, x1, x2, x3, M =>
    if x3 < 0 then
      some ((-1000000005 : Int32), M)
    else
      if ixb x3 14 = true then
      if (M (rfC (rfC a0 1) (ix x3)) 1) = x1 then
        if ixb x3 14 = true then
        if (M (rfC (rfC a0 1) (ix x3)) 0) = x2 then
          some (x3, M)
        else
          f_X0_textFor_b39 (f_X0_textFor_b7  n) a0 x1 x2 x3 M
        else none
      else
        f_X0_textFor_b39 (f_X0_textFor_b7  n) a0 x1 x2 x3 M
      else none
set_option maxRecDepth 20000 in
set_option maxHeartbeats 4000000 in
theorem ok_X0_textFor_b7 {l : Launch} {g : Gam} {b : Nat}   : ∀ (n : Nat) (a0 : Nat) (x1 : Int32) (x2 : Int32) (x3 : Int32) (M : Mem) (z : Int32 × Mem), (ha0 : shC[a0]? = some (1, 0)) → f_X0_textFor_b7  n a0 x1 x2 x3 M = some z → V l g (wC b) m_X0_textFor 7 [(0, .ref (b + a0)), (1, .int x1), (2, .int x2), (3, .int x3)] [] M (some (.int z.1)) z.2 := by
  intro n
  induction n with
  | zero =>
    intro a0 x1 x2 x3 M z ha0 hf
    cases hf
  | succ n ih =>
    intro a0 x1 x2 x3 M z ha0 hf
    rw [f_X0_textFor_b7] at hf
    refine V_iload_n (Y := m_X0_textFor) (pc := 7) 3 dX0_textFor_7 rfl ?_
    refine V_if_lt (Y := m_X0_textFor) (pc := 8) (tgt := 45) dX0_textFor_8 (by decide +kernel) hf (fun hf => ?_) (fun hf => ?_)
    · refine V_ldc (Y := m_X0_textFor) (pc := 45) (x := (-1000000005 : Int32)) dX0_textFor_45 tw_328 ?_
      obtain rfl := Option.some.inj hf
      exact V_iret (Y := m_X0_textFor) rfl dX0_textFor_47
    · refine V_aload_n (Y := m_X0_textFor) (pc := 11) 0 dX0_textFor_11 rfl ?_
      refine V_gr (Y := m_X0_textFor) (pc := 12) 1 kX0 ha0 (by decide +kernel) rfl tw_333 dX0_textFor_12 ?_
      refine V_iload_n (Y := m_X0_textFor) (pc := 15) 3 dX0_textFor_15 rfl ?_
      obtain ⟨hi1, hf⟩ := g_if hf
      refine V_aald (Y := m_X0_textFor) (pc := 16) 2 rfl (wtC.1 _ _ ha0 1 _ rfl) hi1 dX0_textFor_16 ?_
      refine V_gi (Y := m_X0_textFor) (pc := 17) 1 kX8 (wtC.2 _ _ _ (wtC.1 _ _ ha0 1 _ rfl) _ (ixb_lt hi1)) (by decide +kernel) rfl tw_251 dX0_textFor_17 ?_
      refine V_iload_n (Y := m_X0_textFor) (pc := 20) 1 dX0_textFor_20 rfl ?_
      refine V_icmp_ne (Y := m_X0_textFor) (pc := 21) (tgt := 39) dX0_textFor_21 (by decide +kernel) hf (fun hf => ?_) (fun hf => ?_)
      · exact V_sub [0, 1, 2, 3] rfl (ok_X0_textFor_b39 (f_X0_textFor_b7  n) ih a0 x1 x2 x3 M z ha0 hf)
      · refine V_aload_n (Y := m_X0_textFor) (pc := 24) 0 dX0_textFor_24 rfl ?_
        refine V_gr (Y := m_X0_textFor) (pc := 25) 1 kX0 ha0 (by decide +kernel) rfl tw_333 dX0_textFor_25 ?_
        refine V_iload_n (Y := m_X0_textFor) (pc := 28) 3 dX0_textFor_28 rfl ?_
        obtain ⟨hi2, hf⟩ := g_if hf
        refine V_aald (Y := m_X0_textFor) (pc := 29) 2 rfl (wtC.1 _ _ ha0 1 _ rfl) hi2 dX0_textFor_29 ?_
        refine V_gi (Y := m_X0_textFor) (pc := 30) 0 kX8 (wtC.2 _ _ _ (wtC.1 _ _ ha0 1 _ rfl) _ (ixb_lt hi2)) (by decide +kernel) rfl tw_248 dX0_textFor_30 ?_
        refine V_iload_n (Y := m_X0_textFor) (pc := 33) 2 dX0_textFor_33 rfl ?_
        refine V_icmp_ne (Y := m_X0_textFor) (pc := 34) (tgt := 39) dX0_textFor_34 (by decide +kernel) hf (fun hf => ?_) (fun hf => ?_)
        · exact V_sub [0, 1, 2, 3] rfl (ok_X0_textFor_b39 (f_X0_textFor_b7  n) ih a0 x1 x2 x3 M z ha0 hf)
        · refine V_iload_n (Y := m_X0_textFor) (pc := 37) 3 dX0_textFor_37 rfl ?_
          obtain rfl := Option.some.inj hf
          exact V_iret (Y := m_X0_textFor) rfl dX0_textFor_38
def f_X0_textFor_b0  (a0 : Nat) (x1 : Int32) (x2 : Int32) (M : Mem) : Option (Int32 × Mem) :=
  f_X0_textFor_b7  FU a0 x1 x2 ((M a0 10) - (1 : Int32)) M
set_option maxRecDepth 20000 in
set_option maxHeartbeats 4000000 in
theorem ok_X0_textFor_b0 {l : Launch} {g : Gam} {b : Nat}   (a0 : Nat) (x1 : Int32) (x2 : Int32) (M : Mem) (z : Int32 × Mem) (ha0 : shC[a0]? = some (1, 0)) (hf : f_X0_textFor_b0 a0 x1 x2 M = some z) : V l g (wC b) m_X0_textFor 0 [(0, .ref (b + a0)), (1, .int x1), (2, .int x2)] [] M (some (.int z.1)) z.2 := by
  unfold f_X0_textFor_b0 at hf
  refine V_aload_n (Y := m_X0_textFor) (pc := 0) 0 dX0_textFor_0 rfl ?_
  refine V_gi (Y := m_X0_textFor) (pc := 1) 10 kX0 ha0 (by decide +kernel) rfl tw_354 dX0_textFor_1 ?_
  refine V_iconst (Y := m_X0_textFor) (pc := 4) (x := (1 : Int32)) dX0_textFor_4 (by decide +kernel) ?_
  refine V_isub (Y := m_X0_textFor) (pc := 5) dX0_textFor_5 ?_
  refine V_istore_n (Y := m_X0_textFor) (pc := 6) [(3, .int ((M a0 10) - (1 : Int32))), (0, .ref (b + a0)), (1, .int x1), (2, .int x2)] dX0_textFor_6 (by decide +kernel) rfl ?_
  exact V_sub [1, 2, 3, 0] rfl (ok_X0_textFor_b7  FU a0 x1 x2 ((M a0 10) - (1 : Int32)) M z ha0 hf)
def f_X0_textFor (a0 : Nat) (x1 : Int32) (x2 : Int32) (M : Mem) : Option (Int32 × Mem) := f_X0_textFor_b0 a0 x1 x2 M
set_option maxRecDepth 20000 in
set_option maxHeartbeats 4000000 in
theorem ok_X0_textFor {l : Launch} {g : Gam} {b : Nat} : ∀ (a0 : Nat) (x1 : Int32) (x2 : Int32) (M : Mem) (z : Int32 × Mem), shC[a0]? = some (1, 0) → f_X0_textFor a0 x1 x2 M = some z → Cn l g (wC b) m_X0_textFor [.ref (b + a0), .int x1, .int x2] M (some (.int z.1)) z.2 := fun a0 x1 x2 M z ha0 hf => Cn_of (by decide +kernel) (Nat.le_of_ble_eq_true rfl) (V_sub [0, 1, 2] rfl (ok_X0_textFor_b0 a0 x1 x2 M z ha0 hf))

abbrev m_X8_joined : Mth := (yX8_joined, cX8_joined, 3, some .int, 1)
theorem yf_X8_joined : YF m_X8_joined 3 := ⟨tw_519, tw_70, by decide +kernel, by decide +kernel⟩
def f_X8_joined_b84   (M : Mem) : Option (Int32 × Mem) :=
  some ((1 : Int32), M)
set_option maxRecDepth 20000 in
set_option maxHeartbeats 4000000 in
theorem ok_X8_joined_b84 {l : Launch} {g : Gam} {b : Nat}    (M : Mem) (z : Int32 × Mem)  (hf : f_X8_joined_b84  M = some z) : V l g (wC b) m_X8_joined 84 [] [] M (some (.int z.1)) z.2 := by
  unfold f_X8_joined_b84 at hf
  refine V_iconst (Y := m_X8_joined) (pc := 84) (x := (1 : Int32)) dX8_joined_84 (by decide +kernel) ?_
  refine V_goto (Y := m_X8_joined) (pc := 85) (tgt := 89) dX8_joined_85 (by decide +kernel) ?_
  obtain rfl := Option.some.inj hf
  exact V_iret (Y := m_X8_joined) rfl dX8_joined_89
def f_X8_joined_b0  (x0 : Int32) (x1 : Int32) (x2 : Int32) (M : Mem) : Option (Int32 × Mem) :=
  if x0 = (38 : Int32) then
    if x1 = 0 then
      some ((0 : Int32), M)
    else
      if x2 = 0 then
        some ((0 : Int32), M)
      else
        some ((1 : Int32), M)
  else
  if x0 = (42 : Int32) then
    some ((x1 * x2), M)
  else
  if x0 = (43 : Int32) then
    some ((x1 + x2), M)
  else
  if x0 = (45 : Int32) then
    some ((x1 - x2), M)
  else
  if x0 = (60 : Int32) then
    if x2 ≤ x1 then
      some ((0 : Int32), M)
    else
      some ((1 : Int32), M)
  else
  if x0 = (61 : Int32) then
    if x1 = x2 then
      some ((1 : Int32), M)
    else
      some ((0 : Int32), M)
  else
  if x0 = (62 : Int32) then
    if x1 ≤ x2 then
      some ((0 : Int32), M)
    else
      some ((1 : Int32), M)
  else
  if x0 = (124 : Int32) then
    if x1 = 0 then
      if x2 = 0 then
        some ((0 : Int32), M)
      else
        f_X8_joined_b84   M
    else
      f_X8_joined_b84   M
  else
  if x2 = 0 then
    some ((0 : Int32), M)
  else
    if x2 = 0 then none else
    some ((x1 / x2), M)
set_option maxRecDepth 20000 in
set_option maxHeartbeats 4000000 in
theorem ok_X8_joined_b0 {l : Launch} {g : Gam} {b : Nat}   (x0 : Int32) (x1 : Int32) (x2 : Int32) (M : Mem) (z : Int32 × Mem)  (hf : f_X8_joined_b0 x0 x1 x2 M = some z) : V l g (wC b) m_X8_joined 0 [(0, .int x0), (1, .int x1), (2, .int x2)] [] M (some (.int z.1)) z.2 := by
  unfold f_X8_joined_b0 at hf
  refine V_iload_n (Y := m_X8_joined) (pc := 0) 0 dX8_joined_0 rfl ?_
  by_cases hc1 : x0 = (38 : Int32)
  · rw [if_pos hc1] at hf
    refine V_lsw (Y := m_X8_joined) (pc := 1) (tgt := 90) (38 : Int32) hc1 dX8_joined_1 (by decide +kernel) (by decide +kernel) ?_
    refine V_iload_n (Y := m_X8_joined) (pc := 90) 1 dX8_joined_90 rfl ?_
    refine V_if_eq (Y := m_X8_joined) (pc := 91) (tgt := 102) dX8_joined_91 (by decide +kernel) hf (fun hf => ?_) (fun hf => ?_)
    · refine V_iconst (Y := m_X8_joined) (pc := 102) (x := (0 : Int32)) dX8_joined_102 (by decide +kernel) ?_
      obtain rfl := Option.some.inj hf
      exact V_iret (Y := m_X8_joined) rfl dX8_joined_103
    · refine V_iload_n (Y := m_X8_joined) (pc := 94) 2 dX8_joined_94 rfl ?_
      refine V_if_eq (Y := m_X8_joined) (pc := 95) (tgt := 102) dX8_joined_95 (by decide +kernel) hf (fun hf => ?_) (fun hf => ?_)
      · refine V_iconst (Y := m_X8_joined) (pc := 102) (x := (0 : Int32)) dX8_joined_102 (by decide +kernel) ?_
        obtain rfl := Option.some.inj hf
        exact V_iret (Y := m_X8_joined) rfl dX8_joined_103
      · refine V_iconst (Y := m_X8_joined) (pc := 98) (x := (1 : Int32)) dX8_joined_98 (by decide +kernel) ?_
        refine V_goto (Y := m_X8_joined) (pc := 99) (tgt := 103) dX8_joined_99 (by decide +kernel) ?_
        obtain rfl := Option.some.inj hf
        exact V_iret (Y := m_X8_joined) rfl dX8_joined_103
  rw [if_neg hc1] at hf
  by_cases hc2 : x0 = (42 : Int32)
  · rw [if_pos hc2] at hf
    refine V_lsw (Y := m_X8_joined) (pc := 1) (tgt := 145) (42 : Int32) hc2 dX8_joined_1 (by decide +kernel) (by decide +kernel) ?_
    refine V_iload_n (Y := m_X8_joined) (pc := 145) 1 dX8_joined_145 rfl ?_
    refine V_iload_n (Y := m_X8_joined) (pc := 146) 2 dX8_joined_146 rfl ?_
    refine V_imul (Y := m_X8_joined) (pc := 147) dX8_joined_147 ?_
    obtain rfl := Option.some.inj hf
    exact V_iret (Y := m_X8_joined) rfl dX8_joined_148
  rw [if_neg hc2] at hf
  by_cases hc3 : x0 = (43 : Int32)
  · rw [if_pos hc3] at hf
    refine V_lsw (Y := m_X8_joined) (pc := 1) (tgt := 137) (43 : Int32) hc3 dX8_joined_1 (by decide +kernel) (by decide +kernel) ?_
    refine V_iload_n (Y := m_X8_joined) (pc := 137) 1 dX8_joined_137 rfl ?_
    refine V_iload_n (Y := m_X8_joined) (pc := 138) 2 dX8_joined_138 rfl ?_
    refine V_iadd (Y := m_X8_joined) (pc := 139) dX8_joined_139 ?_
    obtain rfl := Option.some.inj hf
    exact V_iret (Y := m_X8_joined) rfl dX8_joined_140
  rw [if_neg hc3] at hf
  by_cases hc4 : x0 = (45 : Int32)
  · rw [if_pos hc4] at hf
    refine V_lsw (Y := m_X8_joined) (pc := 1) (tgt := 141) (45 : Int32) hc4 dX8_joined_1 (by decide +kernel) (by decide +kernel) ?_
    refine V_iload_n (Y := m_X8_joined) (pc := 141) 1 dX8_joined_141 rfl ?_
    refine V_iload_n (Y := m_X8_joined) (pc := 142) 2 dX8_joined_142 rfl ?_
    refine V_isub (Y := m_X8_joined) (pc := 143) dX8_joined_143 ?_
    obtain rfl := Option.some.inj hf
    exact V_iret (Y := m_X8_joined) rfl dX8_joined_144
  rw [if_neg hc4] at hf
  by_cases hc5 : x0 = (60 : Int32)
  · rw [if_pos hc5] at hf
    refine V_lsw (Y := m_X8_joined) (pc := 1) (tgt := 104) (60 : Int32) hc5 dX8_joined_1 (by decide +kernel) (by decide +kernel) ?_
    refine V_iload_n (Y := m_X8_joined) (pc := 104) 1 dX8_joined_104 rfl ?_
    refine V_iload_n (Y := m_X8_joined) (pc := 105) 2 dX8_joined_105 rfl ?_
    refine V_icmp_ge (Y := m_X8_joined) (pc := 106) (tgt := 113) dX8_joined_106 (by decide +kernel) hf (fun hf => ?_) (fun hf => ?_)
    · refine V_iconst (Y := m_X8_joined) (pc := 113) (x := (0 : Int32)) dX8_joined_113 (by decide +kernel) ?_
      obtain rfl := Option.some.inj hf
      exact V_iret (Y := m_X8_joined) rfl dX8_joined_114
    · refine V_iconst (Y := m_X8_joined) (pc := 109) (x := (1 : Int32)) dX8_joined_109 (by decide +kernel) ?_
      refine V_goto (Y := m_X8_joined) (pc := 110) (tgt := 114) dX8_joined_110 (by decide +kernel) ?_
      obtain rfl := Option.some.inj hf
      exact V_iret (Y := m_X8_joined) rfl dX8_joined_114
  rw [if_neg hc5] at hf
  by_cases hc6 : x0 = (61 : Int32)
  · rw [if_pos hc6] at hf
    refine V_lsw (Y := m_X8_joined) (pc := 1) (tgt := 115) (61 : Int32) hc6 dX8_joined_1 (by decide +kernel) (by decide +kernel) ?_
    refine V_iload_n (Y := m_X8_joined) (pc := 115) 1 dX8_joined_115 rfl ?_
    refine V_iload_n (Y := m_X8_joined) (pc := 116) 2 dX8_joined_116 rfl ?_
    refine V_icmp_ne (Y := m_X8_joined) (pc := 117) (tgt := 124) dX8_joined_117 (by decide +kernel) hf (fun hf => ?_) (fun hf => ?_)
    · refine V_iconst (Y := m_X8_joined) (pc := 124) (x := (0 : Int32)) dX8_joined_124 (by decide +kernel) ?_
      obtain rfl := Option.some.inj hf
      exact V_iret (Y := m_X8_joined) rfl dX8_joined_125
    · refine V_iconst (Y := m_X8_joined) (pc := 120) (x := (1 : Int32)) dX8_joined_120 (by decide +kernel) ?_
      refine V_goto (Y := m_X8_joined) (pc := 121) (tgt := 125) dX8_joined_121 (by decide +kernel) ?_
      obtain rfl := Option.some.inj hf
      exact V_iret (Y := m_X8_joined) rfl dX8_joined_125
  rw [if_neg hc6] at hf
  by_cases hc7 : x0 = (62 : Int32)
  · rw [if_pos hc7] at hf
    refine V_lsw (Y := m_X8_joined) (pc := 1) (tgt := 126) (62 : Int32) hc7 dX8_joined_1 (by decide +kernel) (by decide +kernel) ?_
    refine V_iload_n (Y := m_X8_joined) (pc := 126) 1 dX8_joined_126 rfl ?_
    refine V_iload_n (Y := m_X8_joined) (pc := 127) 2 dX8_joined_127 rfl ?_
    refine V_icmp_le (Y := m_X8_joined) (pc := 128) (tgt := 135) dX8_joined_128 (by decide +kernel) hf (fun hf => ?_) (fun hf => ?_)
    · refine V_iconst (Y := m_X8_joined) (pc := 135) (x := (0 : Int32)) dX8_joined_135 (by decide +kernel) ?_
      obtain rfl := Option.some.inj hf
      exact V_iret (Y := m_X8_joined) rfl dX8_joined_136
    · refine V_iconst (Y := m_X8_joined) (pc := 131) (x := (1 : Int32)) dX8_joined_131 (by decide +kernel) ?_
      refine V_goto (Y := m_X8_joined) (pc := 132) (tgt := 136) dX8_joined_132 (by decide +kernel) ?_
      obtain rfl := Option.some.inj hf
      exact V_iret (Y := m_X8_joined) rfl dX8_joined_136
  rw [if_neg hc7] at hf
  by_cases hc8 : x0 = (124 : Int32)
  · rw [if_pos hc8] at hf
    refine V_lsw (Y := m_X8_joined) (pc := 1) (tgt := 76) (124 : Int32) hc8 dX8_joined_1 (by decide +kernel) (by decide +kernel) ?_
    refine V_iload_n (Y := m_X8_joined) (pc := 76) 1 dX8_joined_76 rfl ?_
    refine V_if_ne (Y := m_X8_joined) (pc := 77) (tgt := 84) dX8_joined_77 (by decide +kernel) hf (fun hf => ?_) (fun hf => ?_)
    · exact V_sub [] rfl (ok_X8_joined_b84   M z  hf)
    · refine V_iload_n (Y := m_X8_joined) (pc := 80) 2 dX8_joined_80 rfl ?_
      refine V_if_eq (Y := m_X8_joined) (pc := 81) (tgt := 88) dX8_joined_81 (by decide +kernel) hf (fun hf => ?_) (fun hf => ?_)
      · refine V_iconst (Y := m_X8_joined) (pc := 88) (x := (0 : Int32)) dX8_joined_88 (by decide +kernel) ?_
        obtain rfl := Option.some.inj hf
        exact V_iret (Y := m_X8_joined) rfl dX8_joined_89
      · exact V_sub [] rfl (ok_X8_joined_b84   M z  hf)
  rw [if_neg hc8] at hf
  refine V_lswO (Y := m_X8_joined) (pc := 1) (tgt := 149) [(38 : Int32), (42 : Int32), (43 : Int32), (45 : Int32), (60 : Int32), (61 : Int32), (62 : Int32), (124 : Int32)] (List.forall_mem_cons.mpr ⟨hc1, (List.forall_mem_cons.mpr ⟨hc2, (List.forall_mem_cons.mpr ⟨hc3, (List.forall_mem_cons.mpr ⟨hc4, (List.forall_mem_cons.mpr ⟨hc5, (List.forall_mem_cons.mpr ⟨hc6, (List.forall_mem_cons.mpr ⟨hc7, (List.forall_mem_cons.mpr ⟨hc8, (fun _ h => absurd h List.not_mem_nil)⟩)⟩)⟩)⟩)⟩)⟩)⟩)⟩) dX8_joined_1 (by decide +kernel) (by decide +kernel) (by decide +kernel) ?_
  refine V_iload_n (Y := m_X8_joined) (pc := 149) 2 dX8_joined_149 rfl ?_
  refine V_if_ne (Y := m_X8_joined) (pc := 150) (tgt := 157) dX8_joined_150 (by decide +kernel) hf (fun hf => ?_) (fun hf => ?_)
  · refine V_iload_n (Y := m_X8_joined) (pc := 157) 1 dX8_joined_157 rfl ?_
    refine V_iload_n (Y := m_X8_joined) (pc := 158) 2 dX8_joined_158 rfl ?_
    obtain ⟨hc9, hf⟩ := g_ifn hf
    refine V_idiv (Y := m_X8_joined) (pc := 159) dX8_joined_159 hc9 ?_
    obtain rfl := Option.some.inj hf
    exact V_iret (Y := m_X8_joined) rfl dX8_joined_160
  · refine V_iconst (Y := m_X8_joined) (pc := 153) (x := (0 : Int32)) dX8_joined_153 (by decide +kernel) ?_
    refine V_goto (Y := m_X8_joined) (pc := 154) (tgt := 160) dX8_joined_154 (by decide +kernel) ?_
    obtain rfl := Option.some.inj hf
    exact V_iret (Y := m_X8_joined) rfl dX8_joined_160
def f_X8_joined (x0 : Int32) (x1 : Int32) (x2 : Int32) (M : Mem) : Option (Int32 × Mem) := f_X8_joined_b0 x0 x1 x2 M
set_option maxRecDepth 20000 in
set_option maxHeartbeats 4000000 in
theorem ok_X8_joined {l : Launch} {g : Gam} {b : Nat} : ∀ (x0 : Int32) (x1 : Int32) (x2 : Int32) (M : Mem) (z : Int32 × Mem), f_X8_joined x0 x1 x2 M = some z → Cn l g (wC b) m_X8_joined [.int x0, .int x1, .int x2] M (some (.int z.1)) z.2 := fun x0 x1 x2 M z  hf => Cn_of (by decide +kernel) (Nat.le_of_ble_eq_true rfl) (V_sub [0, 1, 2] rfl (ok_X8_joined_b0 x0 x1 x2 M z  hf))

abbrev m_X8_valueFor : Mth := (yX8_valueFor, cX8_valueFor, 6, some .int, 2)
theorem yf_X8_valueFor : YF m_X8_valueFor 2 := ⟨tw_516, tw_70, by decide +kernel, by decide +kernel⟩
def f_X8_valueFor_b174  (a2 : Nat) (M : Mem) : Option (Int32 × Mem) :=
  some ((M a2 0), M)
set_option maxRecDepth 20000 in
set_option maxHeartbeats 4000000 in
theorem ok_X8_valueFor_b174 {l : Launch} {g : Gam} {b : Nat}   (a2 : Nat) (M : Mem) (z : Int32 × Mem) (ha2 : shC[a2]? = some (0, 96)) (hf : f_X8_valueFor_b174 a2 M = some z) : V l g (wC b) m_X8_valueFor 174 [(2, .ref (b + a2))] [] M (some (.int z.1)) z.2 := by
  unfold f_X8_valueFor_b174 at hf
  refine V_aload_n (Y := m_X8_valueFor) (pc := 174) 0 dX8_valueFor_174 rfl ?_
  refine V_iconst (Y := m_X8_valueFor) (pc := 175) (x := (0 : Int32)) dX8_valueFor_175 (by decide +kernel) ?_
  refine V_ialdL (Y := m_X8_valueFor) (pc := 176) (j := 0) ha2 (by decide +kernel) rfl dX8_valueFor_176 ?_
  obtain rfl := Option.some.inj hf
  exact V_iret (Y := m_X8_valueFor) rfl dX8_valueFor_177
def f_X8_valueFor_b168 (k5 : Nat → Nat → Nat → Int32 → Int32 → Mem → Option (Int32 × Mem)) (a0 : Nat) (a1 : Nat) (a2 : Nat) (x3 : Int32) (x4 : Int32) (M : Mem) : Option (Int32 × Mem) :=
  k5 a0 a1 a2 x3 (x4 + (1 : Int32)) M
set_option maxRecDepth 20000 in
set_option maxHeartbeats 4000000 in
theorem ok_X8_valueFor_b168 {l : Launch} {g : Gam} {b : Nat} (k5 : Nat → Nat → Nat → Int32 → Int32 → Mem → Option (Int32 × Mem)) (hk5 : ∀ (a0 : Nat) (a1 : Nat) (a2 : Nat) (x3 : Int32) (x4 : Int32) (M : Mem) (z : Int32 × Mem), shC[a0]? = some (1, 8) → shC[a1]? = some (1, 2) → shC[a2]? = some (0, 96) → k5 a0 a1 a2 x3 x4 M = some z → V l g (wC b) m_X8_valueFor 5 [(0, .ref (b + a0)), (1, .ref (b + a1)), (2, .ref (b + a2)), (3, .int x3), (4, .int x4)] [] M (some (.int z.1)) z.2) (a0 : Nat) (a1 : Nat) (a2 : Nat) (x3 : Int32) (x4 : Int32) (M : Mem) (z : Int32 × Mem) (ha0 : shC[a0]? = some (1, 8)) (ha1 : shC[a1]? = some (1, 2)) (ha2 : shC[a2]? = some (0, 96)) (hf : f_X8_valueFor_b168 k5 a0 a1 a2 x3 x4 M = some z) : V l g (wC b) m_X8_valueFor 168 [(0, .ref (b + a0)), (1, .ref (b + a1)), (2, .ref (b + a2)), (3, .int x3), (4, .int x4)] [] M (some (.int z.1)) z.2 := by
  unfold f_X8_valueFor_b168 at hf
  refine V_iinc (Y := m_X8_valueFor) (pc := 168) (y := (x4 + (1 : Int32))) 4 [(4, .int (x4 + (1 : Int32))), (0, .ref (b + a0)), (1, .ref (b + a1)), (2, .ref (b + a2)), (3, .int x3)] dX8_valueFor_168 rfl rfl (by decide +kernel) rfl ?_
  refine V_goto (Y := m_X8_valueFor) (pc := 171) (tgt := 5) dX8_valueFor_171 (by decide +kernel) ?_
  exact V_sub [1, 2, 3, 4, 0] rfl (hk5 a0 a1 a2 x3 (x4 + (1 : Int32)) M z ha0 ha1 ha2 hf)
def f_X8_valueFor_b105 (k5 : Nat → Nat → Nat → Int32 → Int32 → Mem → Option (Int32 × Mem)) (a0 : Nat) (a1 : Nat) (a2 : Nat) (x3 : Int32) (x4 : Int32) (s0 : Int32) (s1 : Int32) (t2 : Nat) (M : Mem) : Option (Int32 × Mem) :=
  if ixb s1 96 = true then
  f_X8_valueFor_b168 k5 a0 a1 a2 x3 x4 (mset M t2 (ix s1) s0)
  else none
set_option maxRecDepth 20000 in
set_option maxHeartbeats 4000000 in
theorem ok_X8_valueFor_b105 {l : Launch} {g : Gam} {b : Nat} (k5 : Nat → Nat → Nat → Int32 → Int32 → Mem → Option (Int32 × Mem)) (hk5 : ∀ (a0 : Nat) (a1 : Nat) (a2 : Nat) (x3 : Int32) (x4 : Int32) (M : Mem) (z : Int32 × Mem), shC[a0]? = some (1, 8) → shC[a1]? = some (1, 2) → shC[a2]? = some (0, 96) → k5 a0 a1 a2 x3 x4 M = some z → V l g (wC b) m_X8_valueFor 5 [(0, .ref (b + a0)), (1, .ref (b + a1)), (2, .ref (b + a2)), (3, .int x3), (4, .int x4)] [] M (some (.int z.1)) z.2) (a0 : Nat) (a1 : Nat) (a2 : Nat) (x3 : Int32) (x4 : Int32) (s0 : Int32) (s1 : Int32) (t2 : Nat) (M : Mem) (z : Int32 × Mem) (ha0 : shC[a0]? = some (1, 8)) (ha1 : shC[a1]? = some (1, 2)) (ha2 : shC[a2]? = some (0, 96)) (ht2 : shC[t2]? = some (0, 96)) (hf : f_X8_valueFor_b105 k5 a0 a1 a2 x3 x4 s0 s1 t2 M = some z) : V l g (wC b) m_X8_valueFor 105 [(0, .ref (b + a0)), (1, .ref (b + a1)), (2, .ref (b + a2)), (3, .int x3), (4, .int x4)] [.int s0, .int s1, .ref (b + t2)] M (some (.int z.1)) z.2 := by
  unfold f_X8_valueFor_b105 at hf
  obtain ⟨hi1, hf⟩ := g_if hf
  refine V_iast (Y := m_X8_valueFor) (pc := 105) ht2 hi1 dX8_valueFor_105 ?_
  refine V_goto (Y := m_X8_valueFor) (pc := 106) (tgt := 168) dX8_valueFor_106 (by decide +kernel) ?_
  exact V_sub [0, 1, 2, 3, 4] rfl (ok_X8_valueFor_b168 k5 hk5 a0 a1 a2 x3 x4 (mset M t2 (ix s1) s0) z ha0 ha1 ha2 hf)
def f_X8_valueFor_b68 (k5 : Nat → Nat → Nat → Int32 → Int32 → Mem → Option (Int32 × Mem)) (a0 : Nat) (a1 : Nat) (a2 : Nat) (x3 : Int32) (x4 : Int32) (x5 : Int32) (M : Mem) : Option (Int32 × Mem) :=
  if x5 = (100 : Int32) then
    f_X8_valueFor_b105 k5 a0 a1 a2 (x3 + (1 : Int32)) x4 (M a1 2) x3 a2 M
  else
    if x5 = (97 : Int32) then
      f_X8_valueFor_b105 k5 a0 a1 a2 (x3 + (1 : Int32)) x4 (M a1 3) x3 a2 M
    else
      f_X8_valueFor_b105 k5 a0 a1 a2 (x3 + (1 : Int32)) x4 (M a1 4) x3 a2 M
set_option maxRecDepth 20000 in
set_option maxHeartbeats 4000000 in
theorem ok_X8_valueFor_b68 {l : Launch} {g : Gam} {b : Nat} (k5 : Nat → Nat → Nat → Int32 → Int32 → Mem → Option (Int32 × Mem)) (hk5 : ∀ (a0 : Nat) (a1 : Nat) (a2 : Nat) (x3 : Int32) (x4 : Int32) (M : Mem) (z : Int32 × Mem), shC[a0]? = some (1, 8) → shC[a1]? = some (1, 2) → shC[a2]? = some (0, 96) → k5 a0 a1 a2 x3 x4 M = some z → V l g (wC b) m_X8_valueFor 5 [(0, .ref (b + a0)), (1, .ref (b + a1)), (2, .ref (b + a2)), (3, .int x3), (4, .int x4)] [] M (some (.int z.1)) z.2) (a0 : Nat) (a1 : Nat) (a2 : Nat) (x3 : Int32) (x4 : Int32) (x5 : Int32) (M : Mem) (z : Int32 × Mem) (ha0 : shC[a0]? = some (1, 8)) (ha1 : shC[a1]? = some (1, 2)) (ha2 : shC[a2]? = some (0, 96)) (hf : f_X8_valueFor_b68 k5 a0 a1 a2 x3 x4 x5 M = some z) : V l g (wC b) m_X8_valueFor 68 [(0, .ref (b + a0)), (1, .ref (b + a1)), (2, .ref (b + a2)), (3, .int x3), (4, .int x4), (5, .int x5)] [] M (some (.int z.1)) z.2 := by
  unfold f_X8_valueFor_b68 at hf
  refine V_aload_n (Y := m_X8_valueFor) (pc := 68) 2 dX8_valueFor_68 rfl ?_
  refine V_iload_n (Y := m_X8_valueFor) (pc := 69) 3 dX8_valueFor_69 rfl ?_
  refine V_iinc (Y := m_X8_valueFor) (pc := 70) (y := (x3 + (1 : Int32))) 3 [(3, .int (x3 + (1 : Int32))), (0, .ref (b + a0)), (1, .ref (b + a1)), (2, .ref (b + a2)), (4, .int x4), (5, .int x5)] dX8_valueFor_70 rfl rfl (by decide +kernel) rfl ?_
  refine V_iload (Y := m_X8_valueFor) (pc := 73) 5 dX8_valueFor_73 rfl ?_
  refine V_bipush (Y := m_X8_valueFor) (pc := 75) (x := (100 : Int32)) dX8_valueFor_75 (by decide +kernel) ?_
  refine V_icmp_ne (Y := m_X8_valueFor) (pc := 77) (tgt := 87) dX8_valueFor_77 (by decide +kernel) hf (fun hf => ?_) (fun hf => ?_)
  · refine V_iload (Y := m_X8_valueFor) (pc := 87) 5 dX8_valueFor_87 rfl ?_
    refine V_bipush (Y := m_X8_valueFor) (pc := 89) (x := (97 : Int32)) dX8_valueFor_89 (by decide +kernel) ?_
    refine V_icmp_ne (Y := m_X8_valueFor) (pc := 91) (tgt := 101) dX8_valueFor_91 (by decide +kernel) hf (fun hf => ?_) (fun hf => ?_)
    · refine V_aload_n (Y := m_X8_valueFor) (pc := 101) 2 dX8_valueFor_101 rfl ?_
      refine V_gi (Y := m_X8_valueFor) (pc := 102) 4 kX2 ha1 (by decide +kernel) rfl tw_302 dX8_valueFor_102 ?_
      exact V_sub [1, 2, 3, 0, 4] rfl (ok_X8_valueFor_b105 k5 hk5 a0 a1 a2 (x3 + (1 : Int32)) x4 (M a1 4) x3 a2 M z ha0 ha1 ha2 ha2 hf)
    · refine V_aload_n (Y := m_X8_valueFor) (pc := 94) 2 dX8_valueFor_94 rfl ?_
      refine V_gi (Y := m_X8_valueFor) (pc := 95) 3 kX2 ha1 (by decide +kernel) rfl tw_297 dX8_valueFor_95 ?_
      refine V_goto (Y := m_X8_valueFor) (pc := 98) (tgt := 105) dX8_valueFor_98 (by decide +kernel) ?_
      exact V_sub [1, 2, 3, 0, 4] rfl (ok_X8_valueFor_b105 k5 hk5 a0 a1 a2 (x3 + (1 : Int32)) x4 (M a1 3) x3 a2 M z ha0 ha1 ha2 ha2 hf)
  · refine V_aload_n (Y := m_X8_valueFor) (pc := 80) 2 dX8_valueFor_80 rfl ?_
    refine V_gi (Y := m_X8_valueFor) (pc := 81) 2 kX2 ha1 (by decide +kernel) rfl tw_292 dX8_valueFor_81 ?_
    refine V_goto (Y := m_X8_valueFor) (pc := 84) (tgt := 105) dX8_valueFor_84 (by decide +kernel) ?_
    exact V_sub [1, 2, 3, 0, 4] rfl (ok_X8_valueFor_b105 k5 hk5 a0 a1 a2 (x3 + (1 : Int32)) x4 (M a1 2) x3 a2 M z ha0 ha1 ha2 ha2 hf)
def f_X8_valueFor_b142 (k5 : Nat → Nat → Nat → Int32 → Int32 → Mem → Option (Int32 × Mem)) (a0 : Nat) (a1 : Nat) (a2 : Nat) (x3 : Int32) (x4 : Int32) (x5 : Int32) (M : Mem) : Option (Int32 × Mem) :=
  if x3 < (2 : Int32) then
    f_X8_valueFor_b168 k5 a0 a1 a2 x3 x4 M
  else
    if ixb ((x3 + (-1 : Int32)) - (1 : Int32)) 96 = true then
    if ixb (x3 + (-1 : Int32)) 96 = true then
    (f_X8_joined x5 (M a2 (ix ((x3 + (-1 : Int32)) - (1 : Int32)))) (M a2 (ix (x3 + (-1 : Int32)))) M).bind fun q3 =>
    if ixb ((x3 + (-1 : Int32)) - (1 : Int32)) 96 = true then
    f_X8_valueFor_b168 k5 a0 a1 a2 (x3 + (-1 : Int32)) x4 (mset q3.2 a2 (ix ((x3 + (-1 : Int32)) - (1 : Int32))) q3.1)
    else none
    else none
    else none
set_option maxRecDepth 20000 in
set_option maxHeartbeats 4000000 in
theorem ok_X8_valueFor_b142 {l : Launch} {g : Gam} {b : Nat} (k5 : Nat → Nat → Nat → Int32 → Int32 → Mem → Option (Int32 × Mem)) (hk5 : ∀ (a0 : Nat) (a1 : Nat) (a2 : Nat) (x3 : Int32) (x4 : Int32) (M : Mem) (z : Int32 × Mem), shC[a0]? = some (1, 8) → shC[a1]? = some (1, 2) → shC[a2]? = some (0, 96) → k5 a0 a1 a2 x3 x4 M = some z → V l g (wC b) m_X8_valueFor 5 [(0, .ref (b + a0)), (1, .ref (b + a1)), (2, .ref (b + a2)), (3, .int x3), (4, .int x4)] [] M (some (.int z.1)) z.2) (a0 : Nat) (a1 : Nat) (a2 : Nat) (x3 : Int32) (x4 : Int32) (x5 : Int32) (M : Mem) (z : Int32 × Mem) (ha0 : shC[a0]? = some (1, 8)) (ha1 : shC[a1]? = some (1, 2)) (ha2 : shC[a2]? = some (0, 96)) (hf : f_X8_valueFor_b142 k5 a0 a1 a2 x3 x4 x5 M = some z) : V l g (wC b) m_X8_valueFor 142 [(0, .ref (b + a0)), (1, .ref (b + a1)), (2, .ref (b + a2)), (3, .int x3), (4, .int x4), (5, .int x5)] [] M (some (.int z.1)) z.2 := by
  unfold f_X8_valueFor_b142 at hf
  refine V_iload_n (Y := m_X8_valueFor) (pc := 142) 3 dX8_valueFor_142 rfl ?_
  refine V_iconst (Y := m_X8_valueFor) (pc := 143) (x := (2 : Int32)) dX8_valueFor_143 (by decide +kernel) ?_
  refine V_icmp_lt (Y := m_X8_valueFor) (pc := 144) (tgt := 168) dX8_valueFor_144 (by decide +kernel) hf (fun hf => ?_) (fun hf => ?_)
  · exact V_sub [0, 1, 2, 3, 4] rfl (ok_X8_valueFor_b168 k5 hk5 a0 a1 a2 x3 x4 M z ha0 ha1 ha2 hf)
  · refine V_iinc (Y := m_X8_valueFor) (pc := 147) (y := (x3 + (-1 : Int32))) 3 [(3, .int (x3 + (-1 : Int32))), (0, .ref (b + a0)), (1, .ref (b + a1)), (2, .ref (b + a2)), (4, .int x4), (5, .int x5)] dX8_valueFor_147 rfl rfl (by decide +kernel) rfl ?_
    refine V_aload_n (Y := m_X8_valueFor) (pc := 150) 3 dX8_valueFor_150 rfl ?_
    refine V_iload_n (Y := m_X8_valueFor) (pc := 151) 0 dX8_valueFor_151 rfl ?_
    refine V_iconst (Y := m_X8_valueFor) (pc := 152) (x := (1 : Int32)) dX8_valueFor_152 (by decide +kernel) ?_
    refine V_isub (Y := m_X8_valueFor) (pc := 153) dX8_valueFor_153 ?_
    refine V_iload (Y := m_X8_valueFor) (pc := 154) 5 dX8_valueFor_154 rfl ?_
    refine V_aload_n (Y := m_X8_valueFor) (pc := 156) 3 dX8_valueFor_156 rfl ?_
    refine V_iload_n (Y := m_X8_valueFor) (pc := 157) 0 dX8_valueFor_157 rfl ?_
    refine V_iconst (Y := m_X8_valueFor) (pc := 158) (x := (1 : Int32)) dX8_valueFor_158 (by decide +kernel) ?_
    refine V_isub (Y := m_X8_valueFor) (pc := 159) dX8_valueFor_159 ?_
    obtain ⟨hi1, hf⟩ := g_if hf
    refine V_iald (Y := m_X8_valueFor) (pc := 160) ha2 hi1 dX8_valueFor_160 ?_
    refine V_aload_n (Y := m_X8_valueFor) (pc := 161) 3 dX8_valueFor_161 rfl ?_
    refine V_iload_n (Y := m_X8_valueFor) (pc := 162) 0 dX8_valueFor_162 rfl ?_
    obtain ⟨hi2, hf⟩ := g_if hf
    refine V_iald (Y := m_X8_valueFor) (pc := 163) ha2 hi2 dX8_valueFor_163 ?_
    obtain ⟨q3, hq3, hf⟩ := g_bind hf
    refine V_cSi (Y := m_X8_valueFor) (pc := 164) (As := [.int x5, .int (M a2 (ix ((x3 + (-1 : Int32)) - (1 : Int32)))), .int (M a2 (ix (x3 + (-1 : Int32))))]) yf_X8_joined (by decide +kernel) (ok_X8_joined x5 (M a2 (ix ((x3 + (-1 : Int32)) - (1 : Int32)))) (M a2 (ix (x3 + (-1 : Int32)))) M _  hq3) tw_518 tw_517 rfl rfl (Nat.le_of_ble_eq_true rfl) dX8_valueFor_164 ?_
    obtain ⟨hi4, hf⟩ := g_if hf
    refine V_iast (Y := m_X8_valueFor) (pc := 167) ha2 hi4 dX8_valueFor_167 ?_
    exact V_sub [1, 2, 3, 0, 4] rfl (ok_X8_valueFor_b168 k5 hk5 a0 a1 a2 (x3 + (-1 : Int32)) x4 (mset q3.2 a2 (ix ((x3 + (-1 : Int32)) - (1 : Int32))) q3.1) z ha0 ha1 ha2 hf)
def f_X8_valueFor_b138 (k5 : Nat → Nat → Nat → Int32 → Int32 → Mem → Option (Int32 × Mem)) (a0 : Nat) (a1 : Nat) (a2 : Nat) (x3 : Int32) (x4 : Int32) (s0 : Int32) (s1 : Int32) (t2 : Nat) (M : Mem) : Option (Int32 × Mem) :=
  if ixb s1 96 = true then
  f_X8_valueFor_b168 k5 a0 a1 a2 x3 x4 (mset M t2 (ix s1) s0)
  else none
set_option maxRecDepth 20000 in
set_option maxHeartbeats 4000000 in
theorem ok_X8_valueFor_b138 {l : Launch} {g : Gam} {b : Nat} (k5 : Nat → Nat → Nat → Int32 → Int32 → Mem → Option (Int32 × Mem)) (hk5 : ∀ (a0 : Nat) (a1 : Nat) (a2 : Nat) (x3 : Int32) (x4 : Int32) (M : Mem) (z : Int32 × Mem), shC[a0]? = some (1, 8) → shC[a1]? = some (1, 2) → shC[a2]? = some (0, 96) → k5 a0 a1 a2 x3 x4 M = some z → V l g (wC b) m_X8_valueFor 5 [(0, .ref (b + a0)), (1, .ref (b + a1)), (2, .ref (b + a2)), (3, .int x3), (4, .int x4)] [] M (some (.int z.1)) z.2) (a0 : Nat) (a1 : Nat) (a2 : Nat) (x3 : Int32) (x4 : Int32) (s0 : Int32) (s1 : Int32) (t2 : Nat) (M : Mem) (z : Int32 × Mem) (ha0 : shC[a0]? = some (1, 8)) (ha1 : shC[a1]? = some (1, 2)) (ha2 : shC[a2]? = some (0, 96)) (ht2 : shC[t2]? = some (0, 96)) (hf : f_X8_valueFor_b138 k5 a0 a1 a2 x3 x4 s0 s1 t2 M = some z) : V l g (wC b) m_X8_valueFor 138 [(0, .ref (b + a0)), (1, .ref (b + a1)), (2, .ref (b + a2)), (3, .int x3), (4, .int x4)] [.int s0, .int s1, .ref (b + t2)] M (some (.int z.1)) z.2 := by
  unfold f_X8_valueFor_b138 at hf
  obtain ⟨hi1, hf⟩ := g_if hf
  refine V_iast (Y := m_X8_valueFor) (pc := 138) ht2 hi1 dX8_valueFor_138 ?_
  refine V_goto (Y := m_X8_valueFor) (pc := 139) (tgt := 168) dX8_valueFor_139 (by decide +kernel) ?_
  exact V_sub [0, 1, 2, 3, 4] rfl (ok_X8_valueFor_b168 k5 hk5 a0 a1 a2 x3 x4 (mset M t2 (ix s1) s0) z ha0 ha1 ha2 hf)
def f_X8_valueFor_b5  : Nat → Nat → Nat → Nat → Int32 → Int32 → Mem → Option (Int32 × Mem)
  | 0, _, _, _, _, _, _ => none
  | n + 1, a0, a1, a2, x3, x4, M =>
    if (M a0 3) ≤ x4 then
      f_X8_valueFor_b174  a2 M
    else
      if (96 : Int32) ≤ x3 then
        f_X8_valueFor_b174  a2 M
      else
        if ixb x4 96 = true then
        if 0 < (-(M (rfC a0 4) (ix x4))) then
          if (-(M (rfC a0 4) (ix x4))) = (100 : Int32) then
            f_X8_valueFor_b68 (f_X8_valueFor_b5  n) a0 a1 a2 x3 x4 (-(M (rfC a0 4) (ix x4))) M
          else
            if (-(M (rfC a0 4) (ix x4))) = (97 : Int32) then
              f_X8_valueFor_b68 (f_X8_valueFor_b5  n) a0 a1 a2 x3 x4 (-(M (rfC a0 4) (ix x4))) M
            else
              if (-(M (rfC a0 4) (ix x4))) = (111 : Int32) then
                f_X8_valueFor_b68 (f_X8_valueFor_b5  n) a0 a1 a2 x3 x4 (-(M (rfC a0 4) (ix x4))) M
              else
                if (-(M (rfC a0 4) (ix x4))) = (33 : Int32) then
                  if x3 < (1 : Int32) then
                    f_X8_valueFor_b142 (f_X8_valueFor_b5  n) a0 a1 a2 x3 x4 (-(M (rfC a0 4) (ix x4))) M
                  else
                    if ixb (x3 - (1 : Int32)) 96 = true then
                    if (M a2 (ix (x3 - (1 : Int32)))) = 0 then
                      f_X8_valueFor_b138 (f_X8_valueFor_b5  n) a0 a1 a2 x3 x4 (1 : Int32) (x3 - (1 : Int32)) a2 M
                    else
                      f_X8_valueFor_b138 (f_X8_valueFor_b5  n) a0 a1 a2 x3 x4 (0 : Int32) (x3 - (1 : Int32)) a2 M
                    else none
                else
                  f_X8_valueFor_b142 (f_X8_valueFor_b5  n) a0 a1 a2 x3 x4 (-(M (rfC a0 4) (ix x4))) M
        else
          if ixb x3 96 = true then
          f_X8_valueFor_b168 (f_X8_valueFor_b5  n) a0 a1 a2 (x3 + (1 : Int32)) x4 (mset M a2 (ix x3) (-(-(M (rfC a0 4) (ix x4)))))
          else none
        else none
set_option maxRecDepth 20000 in
set_option maxHeartbeats 4000000 in
theorem ok_X8_valueFor_b5 {l : Launch} {g : Gam} {b : Nat}   : ∀ (n : Nat) (a0 : Nat) (a1 : Nat) (a2 : Nat) (x3 : Int32) (x4 : Int32) (M : Mem) (z : Int32 × Mem), (ha0 : shC[a0]? = some (1, 8)) → (ha1 : shC[a1]? = some (1, 2)) → (ha2 : shC[a2]? = some (0, 96)) → f_X8_valueFor_b5  n a0 a1 a2 x3 x4 M = some z → V l g (wC b) m_X8_valueFor 5 [(0, .ref (b + a0)), (1, .ref (b + a1)), (2, .ref (b + a2)), (3, .int x3), (4, .int x4)] [] M (some (.int z.1)) z.2 := by
  intro n
  induction n with
  | zero =>
    intro a0 a1 a2 x3 x4 M z ha0 ha1 ha2 hf
    cases hf
  | succ n ih =>
    intro a0 a1 a2 x3 x4 M z ha0 ha1 ha2 hf
    rw [f_X8_valueFor_b5] at hf
    refine V_iload (Y := m_X8_valueFor) (pc := 5) 4 dX8_valueFor_5 rfl ?_
    refine V_aload_n (Y := m_X8_valueFor) (pc := 7) 0 dX8_valueFor_7 rfl ?_
    refine V_gi (Y := m_X8_valueFor) (pc := 8) 3 kX8 ha0 (by decide +kernel) rfl tw_255 dX8_valueFor_8 ?_
    refine V_icmp_ge (Y := m_X8_valueFor) (pc := 11) (tgt := 174) dX8_valueFor_11 (by decide +kernel) hf (fun hf => ?_) (fun hf => ?_)
    · exact V_sub [2] rfl (ok_X8_valueFor_b174  a2 M z ha2 hf)
    · refine V_iload_n (Y := m_X8_valueFor) (pc := 14) 3 dX8_valueFor_14 rfl ?_
      refine V_aload_n (Y := m_X8_valueFor) (pc := 15) 2 dX8_valueFor_15 rfl ?_
      refine V_alen (Y := m_X8_valueFor) (pc := 16) (x := (96 : Int32)) ha2 (by decide +kernel) dX8_valueFor_16 ?_
      refine V_icmp_ge (Y := m_X8_valueFor) (pc := 17) (tgt := 174) dX8_valueFor_17 (by decide +kernel) hf (fun hf => ?_) (fun hf => ?_)
      · exact V_sub [2] rfl (ok_X8_valueFor_b174  a2 M z ha2 hf)
      · refine V_aload_n (Y := m_X8_valueFor) (pc := 20) 0 dX8_valueFor_20 rfl ?_
        refine V_gr (Y := m_X8_valueFor) (pc := 21) 4 kX8 ha0 (by decide +kernel) rfl tw_256 dX8_valueFor_21 ?_
        refine V_iload (Y := m_X8_valueFor) (pc := 24) 4 dX8_valueFor_24 rfl ?_
        obtain ⟨hi1, hf⟩ := g_if hf
        refine V_iald (Y := m_X8_valueFor) (pc := 26) (wtC.1 _ _ ha0 4 _ rfl) hi1 dX8_valueFor_26 ?_
        refine V_ineg (Y := m_X8_valueFor) (pc := 27) dX8_valueFor_27 ?_
        refine V_istore (Y := m_X8_valueFor) (pc := 28) [(5, .int (-(M (rfC a0 4) (ix x4)))), (0, .ref (b + a0)), (1, .ref (b + a1)), (2, .ref (b + a2)), (3, .int x3), (4, .int x4)] dX8_valueFor_28 (by decide +kernel) rfl ?_
        refine V_iload (Y := m_X8_valueFor) (pc := 30) 0 dX8_valueFor_30 rfl ?_
        refine V_if_gt (Y := m_X8_valueFor) (pc := 32) (tgt := 47) dX8_valueFor_32 (by decide +kernel) hf (fun hf => ?_) (fun hf => ?_)
        · refine V_iload (Y := m_X8_valueFor) (pc := 47) 0 dX8_valueFor_47 rfl ?_
          refine V_bipush (Y := m_X8_valueFor) (pc := 49) (x := (100 : Int32)) dX8_valueFor_49 (by decide +kernel) ?_
          refine V_icmp_eq (Y := m_X8_valueFor) (pc := 51) (tgt := 68) dX8_valueFor_51 (by decide +kernel) hf (fun hf => ?_) (fun hf => ?_)
          · exact V_sub [1, 2, 3, 4, 5, 0] rfl (ok_X8_valueFor_b68 (f_X8_valueFor_b5  n) ih a0 a1 a2 x3 x4 (-(M (rfC a0 4) (ix x4))) M z ha0 ha1 ha2 hf)
          · refine V_iload (Y := m_X8_valueFor) (pc := 54) 0 dX8_valueFor_54 rfl ?_
            refine V_bipush (Y := m_X8_valueFor) (pc := 56) (x := (97 : Int32)) dX8_valueFor_56 (by decide +kernel) ?_
            refine V_icmp_eq (Y := m_X8_valueFor) (pc := 58) (tgt := 68) dX8_valueFor_58 (by decide +kernel) hf (fun hf => ?_) (fun hf => ?_)
            · exact V_sub [1, 2, 3, 4, 5, 0] rfl (ok_X8_valueFor_b68 (f_X8_valueFor_b5  n) ih a0 a1 a2 x3 x4 (-(M (rfC a0 4) (ix x4))) M z ha0 ha1 ha2 hf)
            · refine V_iload (Y := m_X8_valueFor) (pc := 61) 0 dX8_valueFor_61 rfl ?_
              refine V_bipush (Y := m_X8_valueFor) (pc := 63) (x := (111 : Int32)) dX8_valueFor_63 (by decide +kernel) ?_
              refine V_icmp_ne (Y := m_X8_valueFor) (pc := 65) (tgt := 109) dX8_valueFor_65 (by decide +kernel) hf (fun hf => ?_) (fun hf => ?_)
              · refine V_iload (Y := m_X8_valueFor) (pc := 109) 0 dX8_valueFor_109 rfl ?_
                refine V_bipush (Y := m_X8_valueFor) (pc := 111) (x := (33 : Int32)) dX8_valueFor_111 (by decide +kernel) ?_
                refine V_icmp_ne (Y := m_X8_valueFor) (pc := 113) (tgt := 142) dX8_valueFor_113 (by decide +kernel) hf (fun hf => ?_) (fun hf => ?_)
                · exact V_sub [1, 2, 3, 4, 5, 0] rfl (ok_X8_valueFor_b142 (f_X8_valueFor_b5  n) ih a0 a1 a2 x3 x4 (-(M (rfC a0 4) (ix x4))) M z ha0 ha1 ha2 hf)
                · refine V_iload_n (Y := m_X8_valueFor) (pc := 116) 4 dX8_valueFor_116 rfl ?_
                  refine V_iconst (Y := m_X8_valueFor) (pc := 117) (x := (1 : Int32)) dX8_valueFor_117 (by decide +kernel) ?_
                  refine V_icmp_lt (Y := m_X8_valueFor) (pc := 118) (tgt := 142) dX8_valueFor_118 (by decide +kernel) hf (fun hf => ?_) (fun hf => ?_)
                  · exact V_sub [1, 2, 3, 4, 5, 0] rfl (ok_X8_valueFor_b142 (f_X8_valueFor_b5  n) ih a0 a1 a2 x3 x4 (-(M (rfC a0 4) (ix x4))) M z ha0 ha1 ha2 hf)
                  · refine V_aload_n (Y := m_X8_valueFor) (pc := 121) 3 dX8_valueFor_121 rfl ?_
                    refine V_iload_n (Y := m_X8_valueFor) (pc := 122) 4 dX8_valueFor_122 rfl ?_
                    refine V_iconst (Y := m_X8_valueFor) (pc := 123) (x := (1 : Int32)) dX8_valueFor_123 (by decide +kernel) ?_
                    refine V_isub (Y := m_X8_valueFor) (pc := 124) dX8_valueFor_124 ?_
                    refine V_aload_n (Y := m_X8_valueFor) (pc := 125) 3 dX8_valueFor_125 rfl ?_
                    refine V_iload_n (Y := m_X8_valueFor) (pc := 126) 4 dX8_valueFor_126 rfl ?_
                    refine V_iconst (Y := m_X8_valueFor) (pc := 127) (x := (1 : Int32)) dX8_valueFor_127 (by decide +kernel) ?_
                    refine V_isub (Y := m_X8_valueFor) (pc := 128) dX8_valueFor_128 ?_
                    obtain ⟨hi2, hf⟩ := g_if hf
                    refine V_iald (Y := m_X8_valueFor) (pc := 129) ha2 hi2 dX8_valueFor_129 ?_
                    refine V_if_ne (Y := m_X8_valueFor) (pc := 130) (tgt := 137) dX8_valueFor_130 (by decide +kernel) hf (fun hf => ?_) (fun hf => ?_)
                    · refine V_iconst (Y := m_X8_valueFor) (pc := 137) (x := (0 : Int32)) dX8_valueFor_137 (by decide +kernel) ?_
                      exact V_sub [1, 2, 3, 4, 5] rfl (ok_X8_valueFor_b138 (f_X8_valueFor_b5  n) ih a0 a1 a2 x3 x4 (0 : Int32) (x3 - (1 : Int32)) a2 M z ha0 ha1 ha2 ha2 hf)
                    · refine V_iconst (Y := m_X8_valueFor) (pc := 133) (x := (1 : Int32)) dX8_valueFor_133 (by decide +kernel) ?_
                      refine V_goto (Y := m_X8_valueFor) (pc := 134) (tgt := 138) dX8_valueFor_134 (by decide +kernel) ?_
                      exact V_sub [1, 2, 3, 4, 5] rfl (ok_X8_valueFor_b138 (f_X8_valueFor_b5  n) ih a0 a1 a2 x3 x4 (1 : Int32) (x3 - (1 : Int32)) a2 M z ha0 ha1 ha2 ha2 hf)
              · exact V_sub [1, 2, 3, 4, 5, 0] rfl (ok_X8_valueFor_b68 (f_X8_valueFor_b5  n) ih a0 a1 a2 x3 x4 (-(M (rfC a0 4) (ix x4))) M z ha0 ha1 ha2 hf)
        · refine V_aload_n (Y := m_X8_valueFor) (pc := 35) 3 dX8_valueFor_35 rfl ?_
          refine V_iload_n (Y := m_X8_valueFor) (pc := 36) 4 dX8_valueFor_36 rfl ?_
          refine V_iinc (Y := m_X8_valueFor) (pc := 37) (y := (x3 + (1 : Int32))) 4 [(3, .int (x3 + (1 : Int32))), (5, .int (-(M (rfC a0 4) (ix x4)))), (0, .ref (b + a0)), (1, .ref (b + a1)), (2, .ref (b + a2)), (4, .int x4)] dX8_valueFor_37 rfl rfl (by decide +kernel) rfl ?_
          refine V_iload (Y := m_X8_valueFor) (pc := 40) 1 dX8_valueFor_40 rfl ?_
          refine V_ineg (Y := m_X8_valueFor) (pc := 42) dX8_valueFor_42 ?_
          obtain ⟨hi3, hf⟩ := g_if hf
          refine V_iast (Y := m_X8_valueFor) (pc := 43) ha2 hi3 dX8_valueFor_43 ?_
          refine V_goto (Y := m_X8_valueFor) (pc := 44) (tgt := 168) dX8_valueFor_44 (by decide +kernel) ?_
          exact V_sub [2, 3, 4, 0, 5] rfl (ok_X8_valueFor_b168 (f_X8_valueFor_b5  n) ih a0 a1 a2 (x3 + (1 : Int32)) x4 (mset M a2 (ix x3) (-(-(M (rfC a0 4) (ix x4))))) z ha0 ha1 ha2 hf)
def f_X8_valueFor_b0  (a0 : Nat) (a1 : Nat) (a2 : Nat) (M : Mem) : Option (Int32 × Mem) :=
  f_X8_valueFor_b5  FU a0 a1 a2 (0 : Int32) (0 : Int32) M
set_option maxRecDepth 20000 in
set_option maxHeartbeats 4000000 in
theorem ok_X8_valueFor_b0 {l : Launch} {g : Gam} {b : Nat}   (a0 : Nat) (a1 : Nat) (a2 : Nat) (M : Mem) (z : Int32 × Mem) (ha0 : shC[a0]? = some (1, 8)) (ha1 : shC[a1]? = some (1, 2)) (ha2 : shC[a2]? = some (0, 96)) (hf : f_X8_valueFor_b0 a0 a1 a2 M = some z) : V l g (wC b) m_X8_valueFor 0 [(0, .ref (b + a0)), (1, .ref (b + a1)), (2, .ref (b + a2))] [] M (some (.int z.1)) z.2 := by
  unfold f_X8_valueFor_b0 at hf
  refine V_iconst (Y := m_X8_valueFor) (pc := 0) (x := (0 : Int32)) dX8_valueFor_0 (by decide +kernel) ?_
  refine V_istore_n (Y := m_X8_valueFor) (pc := 1) [(3, .int (0 : Int32)), (0, .ref (b + a0)), (1, .ref (b + a1)), (2, .ref (b + a2))] dX8_valueFor_1 (by decide +kernel) rfl ?_
  refine V_iconst (Y := m_X8_valueFor) (pc := 2) (x := (0 : Int32)) dX8_valueFor_2 (by decide +kernel) ?_
  refine V_istore (Y := m_X8_valueFor) (pc := 3) [(4, .int (0 : Int32)), (3, .int (0 : Int32)), (0, .ref (b + a0)), (1, .ref (b + a1)), (2, .ref (b + a2))] dX8_valueFor_3 (by decide +kernel) rfl ?_
  exact V_sub [2, 3, 4, 1, 0] rfl (ok_X8_valueFor_b5  FU a0 a1 a2 (0 : Int32) (0 : Int32) M z ha0 ha1 ha2 hf)
def f_X8_valueFor (a0 : Nat) (a1 : Nat) (a2 : Nat) (M : Mem) : Option (Int32 × Mem) := f_X8_valueFor_b0 a0 a1 a2 M
set_option maxRecDepth 20000 in
set_option maxHeartbeats 4000000 in
theorem ok_X8_valueFor {l : Launch} {g : Gam} {b : Nat} : ∀ (a0 : Nat) (a1 : Nat) (a2 : Nat) (M : Mem) (z : Int32 × Mem), shC[a0]? = some (1, 8) → shC[a1]? = some (1, 2) → shC[a2]? = some (0, 96) → f_X8_valueFor a0 a1 a2 M = some z → Cn l g (wC b) m_X8_valueFor [.ref (b + a0), .ref (b + a1), .ref (b + a2)] M (some (.int z.1)) z.2 := fun a0 a1 a2 M z ha0 ha1 ha2 hf => Cn_of (by decide +kernel) (Nat.le_of_ble_eq_true rfl) (V_sub [0, 1, 2] rfl (ok_X8_valueFor_b0 a0 a1 a2 M z ha0 ha1 ha2 hf))

abbrev m_X0_lawFor : Mth := (yX0_lawFor, cX0_lawFor, 5, some .int, 3)
theorem yf_X0_lawFor : YF m_X0_lawFor 3 := ⟨tw_508, tw_71, by decide +kernel, by decide +kernel⟩
def f_X0_lawFor_b0  (a0 : Nat) (a1 : Nat) (x2 : Int32) (x3 : Int32) (M : Mem) : Option (Int32 × Mem) :=
  (f_X0_textFor a0 (M a1 1) x2 M).bind fun q1 =>
  if q1.1 = (-1000000005 : Int32) then
    some (x3, q1.2)
  else
    if ixb q1.1 14 = true then
    (f_X8_valueFor (rfC (rfC a0 1) (ix q1.1)) a1 (rfC a0 2) q1.2).bind fun q3 =>
    some (q3.1, q3.2)
    else none
set_option maxRecDepth 20000 in
set_option maxHeartbeats 4000000 in
theorem ok_X0_lawFor_b0 {l : Launch} {g : Gam} {b : Nat}   (a0 : Nat) (a1 : Nat) (x2 : Int32) (x3 : Int32) (M : Mem) (z : Int32 × Mem) (ha0 : shC[a0]? = some (1, 0)) (ha1 : shC[a1]? = some (1, 2)) (hf : f_X0_lawFor_b0 a0 a1 x2 x3 M = some z) : V l g (wC b) m_X0_lawFor 0 [(0, .ref (b + a0)), (1, .ref (b + a1)), (2, .int x2), (3, .int x3)] [] M (some (.int z.1)) z.2 := by
  unfold f_X0_lawFor_b0 at hf
  refine V_aload_n (Y := m_X0_lawFor) (pc := 0) 0 dX0_lawFor_0 rfl ?_
  refine V_aload_n (Y := m_X0_lawFor) (pc := 1) 1 dX0_lawFor_1 rfl ?_
  refine V_gi (Y := m_X0_lawFor) (pc := 2) 1 kX2 ha1 (by decide +kernel) rfl tw_290 dX0_lawFor_2 ?_
  refine V_iload_n (Y := m_X0_lawFor) (pc := 5) 2 dX0_lawFor_5 rfl ?_
  obtain ⟨q1, hq1, hf⟩ := g_bind hf
  refine V_cVi (Y := m_X0_lawFor) (pc := 6) (As := [.int (M a1 1), .int x2]) yf_X0_textFor kX0 ha0 (by decide +kernel) (ok_X0_textFor a0 (M a1 1) x2 M _ ha0 hq1) tw_510 tw_511 tw_509 rfl rfl (Nat.le_of_ble_eq_true rfl) dX0_lawFor_6 ?_
  refine V_istore (Y := m_X0_lawFor) (pc := 9) [(4, .int q1.1), (0, .ref (b + a0)), (1, .ref (b + a1)), (2, .int x2), (3, .int x3)] dX0_lawFor_9 (by decide +kernel) rfl ?_
  refine V_iload (Y := m_X0_lawFor) (pc := 11) 0 dX0_lawFor_11 rfl ?_
  refine V_ldc (Y := m_X0_lawFor) (pc := 13) (x := (-1000000005 : Int32)) dX0_lawFor_13 tw_328 ?_
  refine V_icmp_ne (Y := m_X0_lawFor) (pc := 15) (tgt := 22) dX0_lawFor_15 (by decide +kernel) hf (fun hf => ?_) (fun hf => ?_)
  · refine V_aload_n (Y := m_X0_lawFor) (pc := 22) 1 dX0_lawFor_22 rfl ?_
    refine V_gr (Y := m_X0_lawFor) (pc := 23) 1 kX0 ha0 (by decide +kernel) rfl tw_333 dX0_lawFor_23 ?_
    refine V_iload (Y := m_X0_lawFor) (pc := 26) 0 dX0_lawFor_26 rfl ?_
    obtain ⟨hi2, hf⟩ := g_if hf
    refine V_aald (Y := m_X0_lawFor) (pc := 28) 2 rfl (wtC.1 _ _ ha0 1 _ rfl) hi2 dX0_lawFor_28 ?_
    refine V_aload_n (Y := m_X0_lawFor) (pc := 29) 2 dX0_lawFor_29 rfl ?_
    refine V_aload_n (Y := m_X0_lawFor) (pc := 30) 1 dX0_lawFor_30 rfl ?_
    refine V_gr (Y := m_X0_lawFor) (pc := 31) 2 kX0 ha0 (by decide +kernel) rfl tw_335 dX0_lawFor_31 ?_
    obtain ⟨q3, hq3, hf⟩ := g_bind hf
    refine V_cVi (Y := m_X0_lawFor) (pc := 34) (As := [.ref (b + a1), .ref (b + (rfC a0 2))]) yf_X8_valueFor kX8 (wtC.2 _ _ _ (wtC.1 _ _ ha0 1 _ rfl) _ (ixb_lt hi2)) (by decide +kernel) (ok_X8_valueFor (rfC (rfC a0 1) (ix q1.1)) a1 (rfC a0 2) q1.2 _ (wtC.2 _ _ _ (wtC.1 _ _ ha0 1 _ rfl) _ (ixb_lt hi2)) ha1 (wtC.1 _ _ ha0 2 _ rfl) hq3) tw_514 tw_515 tw_513 rfl rfl (Nat.le_of_ble_eq_true rfl) dX0_lawFor_34 ?_
    obtain rfl := Option.some.inj hf
    exact V_iret (Y := m_X0_lawFor) rfl dX0_lawFor_37
  · refine V_iload_n (Y := m_X0_lawFor) (pc := 18) 4 dX0_lawFor_18 rfl ?_
    refine V_goto (Y := m_X0_lawFor) (pc := 19) (tgt := 37) dX0_lawFor_19 (by decide +kernel) ?_
    obtain rfl := Option.some.inj hf
    exact V_iret (Y := m_X0_lawFor) rfl dX0_lawFor_37
def f_X0_lawFor (a0 : Nat) (a1 : Nat) (x2 : Int32) (x3 : Int32) (M : Mem) : Option (Int32 × Mem) := f_X0_lawFor_b0 a0 a1 x2 x3 M
set_option maxRecDepth 20000 in
set_option maxHeartbeats 4000000 in
theorem ok_X0_lawFor {l : Launch} {g : Gam} {b : Nat} : ∀ (a0 : Nat) (a1 : Nat) (x2 : Int32) (x3 : Int32) (M : Mem) (z : Int32 × Mem), shC[a0]? = some (1, 0) → shC[a1]? = some (1, 2) → f_X0_lawFor a0 a1 x2 x3 M = some z → Cn l g (wC b) m_X0_lawFor [.ref (b + a0), .ref (b + a1), .int x2, .int x3] M (some (.int z.1)) z.2 := fun a0 a1 x2 x3 M z ha0 ha1 hf => Cn_of (by decide +kernel) (Nat.le_of_ble_eq_true rfl) (V_sub [0, 1, 2, 3] rfl (ok_X0_lawFor_b0 a0 a1 x2 x3 M z ha0 ha1 hf))

abbrev m_X9_heldIn : Mth := (yX9_heldIn, cX9_heldIn, 4, some .int, 1)
theorem yf_X9_heldIn : YF m_X9_heldIn 3 := ⟨tw_522, tw_65, by decide +kernel, by decide +kernel⟩
def f_X9_heldIn_b0  (y0 : Int64) (x2 : Int32) (x3 : Int32) (M : Mem) : Option (Int32 × Mem) :=
  some ((lmax x2.toInt64 (lmin x3.toInt64 y0)).toInt32, M)
set_option maxRecDepth 20000 in
set_option maxHeartbeats 4000000 in
theorem ok_X9_heldIn_b0 {l : Launch} {g : Gam} {b : Nat}   (y0 : Int64) (x2 : Int32) (x3 : Int32) (M : Mem) (z : Int32 × Mem)  (hf : f_X9_heldIn_b0 y0 x2 x3 M = some z) : V l g (wC b) m_X9_heldIn 0 [(0, .long y0), (2, .int x2), (3, .int x3)] [] M (some (.int z.1)) z.2 := by
  unfold f_X9_heldIn_b0 at hf
  refine V_iload_n (Y := m_X9_heldIn) (pc := 0) 1 dX9_heldIn_0 rfl ?_
  refine V_i2l (Y := m_X9_heldIn) (pc := 1) dX9_heldIn_1 ?_
  refine V_iload_n (Y := m_X9_heldIn) (pc := 2) 2 dX9_heldIn_2 rfl ?_
  refine V_i2l (Y := m_X9_heldIn) (pc := 3) dX9_heldIn_3 ?_
  refine V_lload_n (Y := m_X9_heldIn) (pc := 4) 0 dX9_heldIn_4 rfl ?_
  refine V_mminl (Y := m_X9_heldIn) (pc := 5) (by decide +kernel) j_mminl tw_523 (Nat.le_of_ble_eq_true rfl) dX9_heldIn_5 ?_
  refine V_mmaxl (Y := m_X9_heldIn) (pc := 8) (by decide +kernel) j_mmaxl tw_526 (Nat.le_of_ble_eq_true rfl) dX9_heldIn_8 ?_
  refine V_l2i (Y := m_X9_heldIn) (pc := 11) dX9_heldIn_11 ?_
  obtain rfl := Option.some.inj hf
  exact V_iret (Y := m_X9_heldIn) rfl dX9_heldIn_12
def f_X9_heldIn (y0 : Int64) (x2 : Int32) (x3 : Int32) (M : Mem) : Option (Int32 × Mem) := f_X9_heldIn_b0 y0 x2 x3 M
set_option maxRecDepth 20000 in
set_option maxHeartbeats 4000000 in
theorem ok_X9_heldIn {l : Launch} {g : Gam} {b : Nat} : ∀ (y0 : Int64) (x2 : Int32) (x3 : Int32) (M : Mem) (z : Int32 × Mem), f_X9_heldIn y0 x2 x3 M = some z → Cn l g (wC b) m_X9_heldIn [.long y0, .int x2, .int x3] M (some (.int z.1)) z.2 := fun y0 x2 x3 M z  hf => Cn_of (by decide +kernel) (Nat.le_of_ble_eq_true rfl) (V_sub [0, 1, 2] rfl (ok_X9_heldIn_b0 y0 x2 x3 M z  hf))

abbrev m_X0_logOf : Mth := (yX0_logOf, cX0_logOf, 2, some .int, 4)
theorem yf_X0_logOf : YF m_X0_logOf 1 := ⟨tw_504, tw_71, by decide +kernel, by decide +kernel⟩
def f_X0_logOf_b0  (a0 : Nat) (a1 : Nat) (M : Mem) : Option (Int32 × Mem) :=
  (f_X0_lawFor a0 a1 (0 : Int32) (100 : Int32) M).bind fun q1 =>
  (f_X9_heldIn (q1.1).toInt64 (1 : Int32) (400 : Int32) q1.2).bind fun q2 =>
  some (q2.1, q2.2)
set_option maxRecDepth 20000 in
set_option maxHeartbeats 4000000 in
theorem ok_X0_logOf_b0 {l : Launch} {g : Gam} {b : Nat}   (a0 : Nat) (a1 : Nat) (M : Mem) (z : Int32 × Mem) (ha0 : shC[a0]? = some (1, 0)) (ha1 : shC[a1]? = some (1, 2)) (hf : f_X0_logOf_b0 a0 a1 M = some z) : V l g (wC b) m_X0_logOf 0 [(0, .ref (b + a0)), (1, .ref (b + a1))] [] M (some (.int z.1)) z.2 := by
  unfold f_X0_logOf_b0 at hf
  refine V_aload_n (Y := m_X0_logOf) (pc := 0) 0 dX0_logOf_0 rfl ?_
  refine V_aload_n (Y := m_X0_logOf) (pc := 1) 1 dX0_logOf_1 rfl ?_
  refine V_iconst (Y := m_X0_logOf) (pc := 2) (x := (0 : Int32)) dX0_logOf_2 (by decide +kernel) ?_
  refine V_bipush (Y := m_X0_logOf) (pc := 3) (x := (100 : Int32)) dX0_logOf_3 (by decide +kernel) ?_
  obtain ⟨q1, hq1, hf⟩ := g_bind hf
  refine V_cVi (Y := m_X0_logOf) (pc := 5) (As := [.ref (b + a1), .int (0 : Int32), .int (100 : Int32)]) yf_X0_lawFor kX0 ha0 (by decide +kernel) (ok_X0_lawFor a0 a1 (0 : Int32) (100 : Int32) M _ ha0 ha1 hq1) tw_506 tw_507 tw_505 rfl rfl (Nat.le_of_ble_eq_true rfl) dX0_logOf_5 ?_
  refine V_i2l (Y := m_X0_logOf) (pc := 8) dX0_logOf_8 ?_
  refine V_iconst (Y := m_X0_logOf) (pc := 9) (x := (1 : Int32)) dX0_logOf_9 (by decide +kernel) ?_
  refine V_sipush (Y := m_X0_logOf) (pc := 10) (x := (400 : Int32)) dX0_logOf_10 (by decide +kernel) ?_
  obtain ⟨q2, hq2, hf⟩ := g_bind hf
  refine V_cSNi (Y := m_X0_logOf) (pc := 13) (As := [.long (q1.1).toInt64, .int (1 : Int32), .int (400 : Int32)]) yf_X9_heldIn (by decide +kernel) (ok_X9_heldIn (q1.1).toInt64 (1 : Int32) (400 : Int32) q1.2 _  hq2) tw_521 nw_520 rfl rfl (Nat.le_of_ble_eq_true rfl) dX0_logOf_13 ?_
  obtain rfl := Option.some.inj hf
  exact V_iret (Y := m_X0_logOf) rfl dX0_logOf_16
def f_X0_logOf (a0 : Nat) (a1 : Nat) (M : Mem) : Option (Int32 × Mem) := f_X0_logOf_b0 a0 a1 M
set_option maxRecDepth 20000 in
set_option maxHeartbeats 4000000 in
theorem ok_X0_logOf {l : Launch} {g : Gam} {b : Nat} : ∀ (a0 : Nat) (a1 : Nat) (M : Mem) (z : Int32 × Mem), shC[a0]? = some (1, 0) → shC[a1]? = some (1, 2) → f_X0_logOf a0 a1 M = some z → Cn l g (wC b) m_X0_logOf [.ref (b + a0), .ref (b + a1)] M (some (.int z.1)) z.2 := fun a0 a1 M z ha0 ha1 hf => Cn_of (by decide +kernel) (Nat.le_of_ble_eq_true rfl) (V_sub [0, 1] rfl (ok_X0_logOf_b0 a0 a1 M z ha0 ha1 hf))

abbrev m_X0_needleOf : Mth := (yX0_needleOf, cX0_needleOf, 2, some .int, 4)
theorem yf_X0_needleOf : YF m_X0_needleOf 1 := ⟨tw_532, tw_71, by decide +kernel, by decide +kernel⟩
def f_X0_needleOf_b0  (a0 : Nat) (a1 : Nat) (M : Mem) : Option (Int32 × Mem) :=
  (f_X0_lawFor a0 a1 (1 : Int32) (0 : Int32) M).bind fun q1 =>
  (f_X9_heldIn (q1.1).toInt64 (-200 : Int32) (200 : Int32) q1.2).bind fun q2 =>
  some (q2.1, q2.2)
set_option maxRecDepth 20000 in
set_option maxHeartbeats 4000000 in
theorem ok_X0_needleOf_b0 {l : Launch} {g : Gam} {b : Nat}   (a0 : Nat) (a1 : Nat) (M : Mem) (z : Int32 × Mem) (ha0 : shC[a0]? = some (1, 0)) (ha1 : shC[a1]? = some (1, 2)) (hf : f_X0_needleOf_b0 a0 a1 M = some z) : V l g (wC b) m_X0_needleOf 0 [(0, .ref (b + a0)), (1, .ref (b + a1))] [] M (some (.int z.1)) z.2 := by
  unfold f_X0_needleOf_b0 at hf
  refine V_aload_n (Y := m_X0_needleOf) (pc := 0) 0 dX0_needleOf_0 rfl ?_
  refine V_aload_n (Y := m_X0_needleOf) (pc := 1) 1 dX0_needleOf_1 rfl ?_
  refine V_iconst (Y := m_X0_needleOf) (pc := 2) (x := (1 : Int32)) dX0_needleOf_2 (by decide +kernel) ?_
  refine V_iconst (Y := m_X0_needleOf) (pc := 3) (x := (0 : Int32)) dX0_needleOf_3 (by decide +kernel) ?_
  obtain ⟨q1, hq1, hf⟩ := g_bind hf
  refine V_cVi (Y := m_X0_needleOf) (pc := 4) (As := [.ref (b + a1), .int (1 : Int32), .int (0 : Int32)]) yf_X0_lawFor kX0 ha0 (by decide +kernel) (ok_X0_lawFor a0 a1 (1 : Int32) (0 : Int32) M _ ha0 ha1 hq1) tw_506 tw_507 tw_505 rfl rfl (Nat.le_of_ble_eq_true rfl) dX0_needleOf_4 ?_
  refine V_i2l (Y := m_X0_needleOf) (pc := 7) dX0_needleOf_7 ?_
  refine V_sipush (Y := m_X0_needleOf) (pc := 8) (x := (-200 : Int32)) dX0_needleOf_8 (by decide +kernel) ?_
  refine V_sipush (Y := m_X0_needleOf) (pc := 11) (x := (200 : Int32)) dX0_needleOf_11 (by decide +kernel) ?_
  obtain ⟨q2, hq2, hf⟩ := g_bind hf
  refine V_cSNi (Y := m_X0_needleOf) (pc := 14) (As := [.long (q1.1).toInt64, .int (-200 : Int32), .int (200 : Int32)]) yf_X9_heldIn (by decide +kernel) (ok_X9_heldIn (q1.1).toInt64 (-200 : Int32) (200 : Int32) q1.2 _  hq2) tw_521 nw_520 rfl rfl (Nat.le_of_ble_eq_true rfl) dX0_needleOf_14 ?_
  obtain rfl := Option.some.inj hf
  exact V_iret (Y := m_X0_needleOf) rfl dX0_needleOf_17
def f_X0_needleOf (a0 : Nat) (a1 : Nat) (M : Mem) : Option (Int32 × Mem) := f_X0_needleOf_b0 a0 a1 M
set_option maxRecDepth 20000 in
set_option maxHeartbeats 4000000 in
theorem ok_X0_needleOf {l : Launch} {g : Gam} {b : Nat} : ∀ (a0 : Nat) (a1 : Nat) (M : Mem) (z : Int32 × Mem), shC[a0]? = some (1, 0) → shC[a1]? = some (1, 2) → f_X0_needleOf a0 a1 M = some z → Cn l g (wC b) m_X0_needleOf [.ref (b + a0), .ref (b + a1)] M (some (.int z.1)) z.2 := fun a0 a1 M z ha0 ha1 hf => Cn_of (by decide +kernel) (Nat.le_of_ble_eq_true rfl) (V_sub [0, 1] rfl (ok_X0_needleOf_b0 a0 a1 M z ha0 ha1 hf))

abbrev m_X0_watchWith : Mth := (yX0_watchWith, cX0_watchWith, 2, some .int, 2)
theorem yf_X0_watchWith : YF m_X0_watchWith 2 := ⟨tw_539, tw_71, by decide +kernel, by decide +kernel⟩
def f_X0_watchWith_b0  (x0 : Int32) (x1 : Int32) (M : Mem) : Option (Int32 × Mem) :=
  (f_X9_heldIn (x0.toInt64 + x1.toInt64) (-200 : Int32) (200 : Int32) M).bind fun q1 =>
  some (q1.1, q1.2)
set_option maxRecDepth 20000 in
set_option maxHeartbeats 4000000 in
theorem ok_X0_watchWith_b0 {l : Launch} {g : Gam} {b : Nat}   (x0 : Int32) (x1 : Int32) (M : Mem) (z : Int32 × Mem)  (hf : f_X0_watchWith_b0 x0 x1 M = some z) : V l g (wC b) m_X0_watchWith 0 [(0, .int x0), (1, .int x1)] [] M (some (.int z.1)) z.2 := by
  unfold f_X0_watchWith_b0 at hf
  refine V_iload_n (Y := m_X0_watchWith) (pc := 0) 0 dX0_watchWith_0 rfl ?_
  refine V_i2l (Y := m_X0_watchWith) (pc := 1) dX0_watchWith_1 ?_
  refine V_iload_n (Y := m_X0_watchWith) (pc := 2) 1 dX0_watchWith_2 rfl ?_
  refine V_i2l (Y := m_X0_watchWith) (pc := 3) dX0_watchWith_3 ?_
  refine V_ladd (Y := m_X0_watchWith) (pc := 4) dX0_watchWith_4 ?_
  refine V_sipush (Y := m_X0_watchWith) (pc := 5) (x := (-200 : Int32)) dX0_watchWith_5 (by decide +kernel) ?_
  refine V_sipush (Y := m_X0_watchWith) (pc := 8) (x := (200 : Int32)) dX0_watchWith_8 (by decide +kernel) ?_
  obtain ⟨q1, hq1, hf⟩ := g_bind hf
  refine V_cSNi (Y := m_X0_watchWith) (pc := 11) (As := [.long (x0.toInt64 + x1.toInt64), .int (-200 : Int32), .int (200 : Int32)]) yf_X9_heldIn (by decide +kernel) (ok_X9_heldIn (x0.toInt64 + x1.toInt64) (-200 : Int32) (200 : Int32) M _  hq1) tw_521 nw_520 rfl rfl (Nat.le_of_ble_eq_true rfl) dX0_watchWith_11 ?_
  obtain rfl := Option.some.inj hf
  exact V_iret (Y := m_X0_watchWith) rfl dX0_watchWith_14
def f_X0_watchWith (x0 : Int32) (x1 : Int32) (M : Mem) : Option (Int32 × Mem) := f_X0_watchWith_b0 x0 x1 M
set_option maxRecDepth 20000 in
set_option maxHeartbeats 4000000 in
theorem ok_X0_watchWith {l : Launch} {g : Gam} {b : Nat} : ∀ (x0 : Int32) (x1 : Int32) (M : Mem) (z : Int32 × Mem), f_X0_watchWith x0 x1 M = some z → Cn l g (wC b) m_X0_watchWith [.int x0, .int x1] M (some (.int z.1)) z.2 := fun x0 x1 M z  hf => Cn_of (by decide +kernel) (Nat.le_of_ble_eq_true rfl) (V_sub [0, 1] rfl (ok_X0_watchWith_b0 x0 x1 M z  hf))

abbrev m_X0_watchOf : Mth := (yX0_watchOf, cX0_watchOf, 3, some .int, 4)
theorem yf_X0_watchOf : YF m_X0_watchOf 1 := ⟨tw_536, tw_71, by decide +kernel, by decide +kernel⟩
def f_X0_watchOf_b29  (a0 : Nat) (a1 : Nat) (s0 : Int32) (M : Mem) : Option (Int32 × Mem) :=
  (f_X0_lawFor a0 a1 (2 : Int32) (0 : Int32) M).bind fun q1 =>
  (f_X0_watchWith q1.1 s0 q1.2).bind fun q2 =>
  some (q2.1, q2.2)
set_option maxRecDepth 20000 in
set_option maxHeartbeats 4000000 in
theorem ok_X0_watchOf_b29 {l : Launch} {g : Gam} {b : Nat}   (a0 : Nat) (a1 : Nat) (s0 : Int32) (M : Mem) (z : Int32 × Mem) (ha0 : shC[a0]? = some (1, 0)) (ha1 : shC[a1]? = some (1, 2)) (hf : f_X0_watchOf_b29 a0 a1 s0 M = some z) : V l g (wC b) m_X0_watchOf 29 [(0, .ref (b + a0)), (1, .ref (b + a1))] [.int s0] M (some (.int z.1)) z.2 := by
  unfold f_X0_watchOf_b29 at hf
  refine V_istore_n (Y := m_X0_watchOf) (pc := 29) [(2, .int s0), (0, .ref (b + a0)), (1, .ref (b + a1))] dX0_watchOf_29 (by decide +kernel) rfl ?_
  refine V_aload_n (Y := m_X0_watchOf) (pc := 30) 1 dX0_watchOf_30 rfl ?_
  refine V_aload_n (Y := m_X0_watchOf) (pc := 31) 2 dX0_watchOf_31 rfl ?_
  refine V_iconst (Y := m_X0_watchOf) (pc := 32) (x := (2 : Int32)) dX0_watchOf_32 (by decide +kernel) ?_
  refine V_iconst (Y := m_X0_watchOf) (pc := 33) (x := (0 : Int32)) dX0_watchOf_33 (by decide +kernel) ?_
  obtain ⟨q1, hq1, hf⟩ := g_bind hf
  refine V_cVi (Y := m_X0_watchOf) (pc := 34) (As := [.ref (b + a1), .int (2 : Int32), .int (0 : Int32)]) yf_X0_lawFor kX0 ha0 (by decide +kernel) (ok_X0_lawFor a0 a1 (2 : Int32) (0 : Int32) M _ ha0 ha1 hq1) tw_506 tw_507 tw_505 rfl rfl (Nat.le_of_ble_eq_true rfl) dX0_watchOf_34 ?_
  refine V_iload_n (Y := m_X0_watchOf) (pc := 37) 0 dX0_watchOf_37 rfl ?_
  obtain ⟨q2, hq2, hf⟩ := g_bind hf
  refine V_cSi (Y := m_X0_watchOf) (pc := 38) (As := [.int q1.1, .int s0]) yf_X0_watchWith (by decide +kernel) (ok_X0_watchWith q1.1 s0 q1.2 _  hq2) tw_538 tw_537 rfl rfl (Nat.le_of_ble_eq_true rfl) dX0_watchOf_38 ?_
  obtain rfl := Option.some.inj hf
  exact V_iret (Y := m_X0_watchOf) rfl dX0_watchOf_41
def f_X0_watchOf_b0  (a0 : Nat) (a1 : Nat) (M : Mem) : Option (Int32 × Mem) :=
  if ixb (M a1 1) 3 = true then
  if (M a1 2) < (M (rfC a0 6) (ix (M a1 1))) then
    f_X0_watchOf_b29  a0 a1 (0 : Int32) M
  else
    if ixb (M a1 1) 3 = true then
    f_X0_watchOf_b29  a0 a1 (M (rfC a0 7) (ix (M a1 1))) M
    else none
  else none
set_option maxRecDepth 20000 in
set_option maxHeartbeats 4000000 in
theorem ok_X0_watchOf_b0 {l : Launch} {g : Gam} {b : Nat}   (a0 : Nat) (a1 : Nat) (M : Mem) (z : Int32 × Mem) (ha0 : shC[a0]? = some (1, 0)) (ha1 : shC[a1]? = some (1, 2)) (hf : f_X0_watchOf_b0 a0 a1 M = some z) : V l g (wC b) m_X0_watchOf 0 [(0, .ref (b + a0)), (1, .ref (b + a1))] [] M (some (.int z.1)) z.2 := by
  unfold f_X0_watchOf_b0 at hf
  refine V_aload_n (Y := m_X0_watchOf) (pc := 0) 1 dX0_watchOf_0 rfl ?_
  refine V_gi (Y := m_X0_watchOf) (pc := 1) 2 kX2 ha1 (by decide +kernel) rfl tw_295 dX0_watchOf_1 ?_
  refine V_aload_n (Y := m_X0_watchOf) (pc := 4) 0 dX0_watchOf_4 rfl ?_
  refine V_gr (Y := m_X0_watchOf) (pc := 5) 6 kX0 ha0 (by decide +kernel) rfl tw_344 dX0_watchOf_5 ?_
  refine V_aload_n (Y := m_X0_watchOf) (pc := 8) 1 dX0_watchOf_8 rfl ?_
  refine V_gi (Y := m_X0_watchOf) (pc := 9) 1 kX2 ha1 (by decide +kernel) rfl tw_290 dX0_watchOf_9 ?_
  obtain ⟨hi1, hf⟩ := g_if hf
  refine V_iald (Y := m_X0_watchOf) (pc := 12) (wtC.1 _ _ ha0 6 _ rfl) hi1 dX0_watchOf_12 ?_
  refine V_icmp_lt (Y := m_X0_watchOf) (pc := 13) (tgt := 28) dX0_watchOf_13 (by decide +kernel) hf (fun hf => ?_) (fun hf => ?_)
  · refine V_iconst (Y := m_X0_watchOf) (pc := 28) (x := (0 : Int32)) dX0_watchOf_28 (by decide +kernel) ?_
    exact V_sub [0, 1] rfl (ok_X0_watchOf_b29  a0 a1 (0 : Int32) M z ha0 ha1 hf)
  · refine V_aload_n (Y := m_X0_watchOf) (pc := 16) 0 dX0_watchOf_16 rfl ?_
    refine V_gr (Y := m_X0_watchOf) (pc := 17) 7 kX0 ha0 (by decide +kernel) rfl tw_346 dX0_watchOf_17 ?_
    refine V_aload_n (Y := m_X0_watchOf) (pc := 20) 1 dX0_watchOf_20 rfl ?_
    refine V_gi (Y := m_X0_watchOf) (pc := 21) 1 kX2 ha1 (by decide +kernel) rfl tw_290 dX0_watchOf_21 ?_
    obtain ⟨hi2, hf⟩ := g_if hf
    refine V_iald (Y := m_X0_watchOf) (pc := 24) (wtC.1 _ _ ha0 7 _ rfl) hi2 dX0_watchOf_24 ?_
    refine V_goto (Y := m_X0_watchOf) (pc := 25) (tgt := 29) dX0_watchOf_25 (by decide +kernel) ?_
    exact V_sub [0, 1] rfl (ok_X0_watchOf_b29  a0 a1 (M (rfC a0 7) (ix (M a1 1))) M z ha0 ha1 hf)
def f_X0_watchOf (a0 : Nat) (a1 : Nat) (M : Mem) : Option (Int32 × Mem) := f_X0_watchOf_b0 a0 a1 M
set_option maxRecDepth 20000 in
set_option maxHeartbeats 4000000 in
theorem ok_X0_watchOf {l : Launch} {g : Gam} {b : Nat} : ∀ (a0 : Nat) (a1 : Nat) (M : Mem) (z : Int32 × Mem), shC[a0]? = some (1, 0) → shC[a1]? = some (1, 2) → f_X0_watchOf a0 a1 M = some z → Cn l g (wC b) m_X0_watchOf [.ref (b + a0), .ref (b + a1)] M (some (.int z.1)) z.2 := fun a0 a1 M z ha0 ha1 hf => Cn_of (by decide +kernel) (Nat.le_of_ble_eq_true rfl) (V_sub [0, 1] rfl (ok_X0_watchOf_b0 a0 a1 M z ha0 ha1 hf))

abbrev m_X0_saysOf : Mth := (yX0_saysOf, cX0_saysOf, 3, some .int, 5)
theorem yf_X0_saysOf : YF m_X0_saysOf 1 := ⟨tw_500, tw_71, by decide +kernel, by decide +kernel⟩
def f_X0_saysOf_b114  (a1 : Nat) (M : Mem) : Option (Int32 × Mem) :=
  some ((M a1 3), M)
set_option maxRecDepth 20000 in
set_option maxHeartbeats 4000000 in
theorem ok_X0_saysOf_b114 {l : Launch} {g : Gam} {b : Nat}   (a1 : Nat) (M : Mem) (z : Int32 × Mem) (ha1 : shC[a1]? = some (1, 2)) (hf : f_X0_saysOf_b114 a1 M = some z) : V l g (wC b) m_X0_saysOf 114 [(1, .ref (b + a1))] [] M (some (.int z.1)) z.2 := by
  unfold f_X0_saysOf_b114 at hf
  refine V_aload_n (Y := m_X0_saysOf) (pc := 114) 0 dX0_saysOf_114 rfl ?_
  refine V_gi (Y := m_X0_saysOf) (pc := 115) 3 kX2 ha1 (by decide +kernel) rfl tw_300 dX0_saysOf_115 ?_
  obtain rfl := Option.some.inj hf
  exact V_iret (Y := m_X0_saysOf) rfl dX0_saysOf_118
def f_X0_saysOf_b0  (a0 : Nat) (a1 : Nat) (M : Mem) : Option (Int32 × Mem) :=
  if (M a1 0) = (1 : Int32) then
    (f_X0_logOf a0 a1 M).bind fun q2 =>
    some ((((M a1 3) * q2.1) / (100 : Int32)), q2.2)
  else
  if (M a1 0) = (2 : Int32) then
    (f_X0_needleOf a0 a1 M).bind fun q4 =>
    some (((M a1 3) + q4.1), q4.2)
  else
  if (M a1 0) = (3 : Int32) then
    (f_X0_watchOf a0 a1 M).bind fun q6 =>
    some (((M a1 3) + q6.1), q6.2)
  else
  if (M a1 0) = (4 : Int32) then
    some (((M a1 3) + ((M a1 4) / (10 : Int32))), M)
  else
  if (M a1 0) = (5 : Int32) then
    some (((((M a1 3) + ((M a1 4) / (10 : Int32))) / (5 : Int32)) * (5 : Int32)), M)
  else
  if (M a1 0) = (6 : Int32) then
    f_X0_saysOf_b114  a1 M
  else
  if (M a1 0) = (7 : Int32) then
    some ((((M a1 3) + ((M a1 4) / (10 : Int32))) - ((M a1 4) / (10 : Int32))), M)
  else
  f_X0_saysOf_b114  a1 M
set_option maxRecDepth 20000 in
set_option maxHeartbeats 4000000 in
theorem ok_X0_saysOf_b0 {l : Launch} {g : Gam} {b : Nat}   (a0 : Nat) (a1 : Nat) (M : Mem) (z : Int32 × Mem) (ha0 : shC[a0]? = some (1, 0)) (ha1 : shC[a1]? = some (1, 2)) (hf : f_X0_saysOf_b0 a0 a1 M = some z) : V l g (wC b) m_X0_saysOf 0 [(0, .ref (b + a0)), (1, .ref (b + a1))] [] M (some (.int z.1)) z.2 := by
  unfold f_X0_saysOf_b0 at hf
  refine V_aload_n (Y := m_X0_saysOf) (pc := 0) 1 dX0_saysOf_0 rfl ?_
  refine V_gi (Y := m_X0_saysOf) (pc := 1) 3 kX2 ha1 (by decide +kernel) rfl tw_300 dX0_saysOf_1 ?_
  refine V_aload_n (Y := m_X0_saysOf) (pc := 4) 1 dX0_saysOf_4 rfl ?_
  refine V_gi (Y := m_X0_saysOf) (pc := 5) 4 kX2 ha1 (by decide +kernel) rfl tw_304 dX0_saysOf_5 ?_
  refine V_bipush (Y := m_X0_saysOf) (pc := 8) (x := (10 : Int32)) dX0_saysOf_8 (by decide +kernel) ?_
  refine V_idiv (Y := m_X0_saysOf) (pc := 10) dX0_saysOf_10 (by decide +kernel) ?_
  refine V_iadd (Y := m_X0_saysOf) (pc := 11) dX0_saysOf_11 ?_
  refine V_istore_n (Y := m_X0_saysOf) (pc := 12) [(2, .int ((M a1 3) + ((M a1 4) / (10 : Int32)))), (0, .ref (b + a0)), (1, .ref (b + a1))] dX0_saysOf_12 (by decide +kernel) rfl ?_
  refine V_aload_n (Y := m_X0_saysOf) (pc := 13) 2 dX0_saysOf_13 rfl ?_
  refine V_gi (Y := m_X0_saysOf) (pc := 14) 0 kX2 ha1 (by decide +kernel) rfl tw_285 dX0_saysOf_14 ?_
  by_cases hc1 : (M a1 0) = (1 : Int32)
  · rw [if_pos hc1] at hf
    refine V_tsw (Y := m_X0_saysOf) (pc := 17) (tgt := 60) (1 : Int32) hc1 dX0_saysOf_17 (by decide +kernel) ?_
    refine V_aload_n (Y := m_X0_saysOf) (pc := 60) 2 dX0_saysOf_60 rfl ?_
    refine V_gi (Y := m_X0_saysOf) (pc := 61) 3 kX2 ha1 (by decide +kernel) rfl tw_300 dX0_saysOf_61 ?_
    refine V_aload_n (Y := m_X0_saysOf) (pc := 64) 1 dX0_saysOf_64 rfl ?_
    refine V_aload_n (Y := m_X0_saysOf) (pc := 65) 2 dX0_saysOf_65 rfl ?_
    obtain ⟨q2, hq2, hf⟩ := g_bind hf
    refine V_cVi (Y := m_X0_saysOf) (pc := 66) (As := [.ref (b + a1)]) yf_X0_logOf kX0 ha0 (by decide +kernel) (ok_X0_logOf a0 a1 M _ ha0 ha1 hq2) tw_502 tw_503 tw_501 rfl rfl (Nat.le_of_ble_eq_true rfl) dX0_saysOf_66 ?_
    refine V_imul (Y := m_X0_saysOf) (pc := 69) dX0_saysOf_69 ?_
    refine V_bipush (Y := m_X0_saysOf) (pc := 70) (x := (100 : Int32)) dX0_saysOf_70 (by decide +kernel) ?_
    refine V_idiv (Y := m_X0_saysOf) (pc := 72) dX0_saysOf_72 (by decide +kernel) ?_
    obtain rfl := Option.some.inj hf
    exact V_iret (Y := m_X0_saysOf) rfl dX0_saysOf_73
  rw [if_neg hc1] at hf
  by_cases hc3 : (M a1 0) = (2 : Int32)
  · rw [if_pos hc3] at hf
    refine V_tsw (Y := m_X0_saysOf) (pc := 17) (tgt := 74) (2 : Int32) hc3 dX0_saysOf_17 (by decide +kernel) ?_
    refine V_aload_n (Y := m_X0_saysOf) (pc := 74) 2 dX0_saysOf_74 rfl ?_
    refine V_gi (Y := m_X0_saysOf) (pc := 75) 3 kX2 ha1 (by decide +kernel) rfl tw_300 dX0_saysOf_75 ?_
    refine V_aload_n (Y := m_X0_saysOf) (pc := 78) 1 dX0_saysOf_78 rfl ?_
    refine V_aload_n (Y := m_X0_saysOf) (pc := 79) 2 dX0_saysOf_79 rfl ?_
    obtain ⟨q4, hq4, hf⟩ := g_bind hf
    refine V_cVi (Y := m_X0_saysOf) (pc := 80) (As := [.ref (b + a1)]) yf_X0_needleOf kX0 ha0 (by decide +kernel) (ok_X0_needleOf a0 a1 M _ ha0 ha1 hq4) tw_530 tw_531 tw_529 rfl rfl (Nat.le_of_ble_eq_true rfl) dX0_saysOf_80 ?_
    refine V_iadd (Y := m_X0_saysOf) (pc := 83) dX0_saysOf_83 ?_
    obtain rfl := Option.some.inj hf
    exact V_iret (Y := m_X0_saysOf) rfl dX0_saysOf_84
  rw [if_neg hc3] at hf
  by_cases hc5 : (M a1 0) = (3 : Int32)
  · rw [if_pos hc5] at hf
    refine V_tsw (Y := m_X0_saysOf) (pc := 17) (tgt := 85) (3 : Int32) hc5 dX0_saysOf_17 (by decide +kernel) ?_
    refine V_aload_n (Y := m_X0_saysOf) (pc := 85) 2 dX0_saysOf_85 rfl ?_
    refine V_gi (Y := m_X0_saysOf) (pc := 86) 3 kX2 ha1 (by decide +kernel) rfl tw_300 dX0_saysOf_86 ?_
    refine V_aload_n (Y := m_X0_saysOf) (pc := 89) 1 dX0_saysOf_89 rfl ?_
    refine V_aload_n (Y := m_X0_saysOf) (pc := 90) 2 dX0_saysOf_90 rfl ?_
    obtain ⟨q6, hq6, hf⟩ := g_bind hf
    refine V_cVi (Y := m_X0_saysOf) (pc := 91) (As := [.ref (b + a1)]) yf_X0_watchOf kX0 ha0 (by decide +kernel) (ok_X0_watchOf a0 a1 M _ ha0 ha1 hq6) tw_534 tw_535 tw_533 rfl rfl (Nat.le_of_ble_eq_true rfl) dX0_saysOf_91 ?_
    refine V_iadd (Y := m_X0_saysOf) (pc := 94) dX0_saysOf_94 ?_
    obtain rfl := Option.some.inj hf
    exact V_iret (Y := m_X0_saysOf) rfl dX0_saysOf_95
  rw [if_neg hc5] at hf
  by_cases hc7 : (M a1 0) = (4 : Int32)
  · rw [if_pos hc7] at hf
    refine V_tsw (Y := m_X0_saysOf) (pc := 17) (tgt := 96) (4 : Int32) hc7 dX0_saysOf_17 (by decide +kernel) ?_
    refine V_iload_n (Y := m_X0_saysOf) (pc := 96) 0 dX0_saysOf_96 rfl ?_
    obtain rfl := Option.some.inj hf
    exact V_iret (Y := m_X0_saysOf) rfl dX0_saysOf_97
  rw [if_neg hc7] at hf
  by_cases hc8 : (M a1 0) = (5 : Int32)
  · rw [if_pos hc8] at hf
    refine V_tsw (Y := m_X0_saysOf) (pc := 17) (tgt := 98) (5 : Int32) hc8 dX0_saysOf_17 (by decide +kernel) ?_
    refine V_iload_n (Y := m_X0_saysOf) (pc := 98) 0 dX0_saysOf_98 rfl ?_
    refine V_iconst (Y := m_X0_saysOf) (pc := 99) (x := (5 : Int32)) dX0_saysOf_99 (by decide +kernel) ?_
    refine V_idiv (Y := m_X0_saysOf) (pc := 100) dX0_saysOf_100 (by decide +kernel) ?_
    refine V_iconst (Y := m_X0_saysOf) (pc := 101) (x := (5 : Int32)) dX0_saysOf_101 (by decide +kernel) ?_
    refine V_imul (Y := m_X0_saysOf) (pc := 102) dX0_saysOf_102 ?_
    obtain rfl := Option.some.inj hf
    exact V_iret (Y := m_X0_saysOf) rfl dX0_saysOf_103
  rw [if_neg hc8] at hf
  by_cases hc9 : (M a1 0) = (6 : Int32)
  · rw [if_pos hc9] at hf
    refine V_tsw (Y := m_X0_saysOf) (pc := 17) (tgt := 114) (6 : Int32) hc9 dX0_saysOf_17 (by decide +kernel) ?_
    exact V_sub [2] rfl (ok_X0_saysOf_b114  a1 M z ha1 hf)
  rw [if_neg hc9] at hf
  by_cases hc10 : (M a1 0) = (7 : Int32)
  · rw [if_pos hc10] at hf
    refine V_tsw (Y := m_X0_saysOf) (pc := 17) (tgt := 104) (7 : Int32) hc10 dX0_saysOf_17 (by decide +kernel) ?_
    refine V_iload_n (Y := m_X0_saysOf) (pc := 104) 0 dX0_saysOf_104 rfl ?_
    refine V_aload_n (Y := m_X0_saysOf) (pc := 105) 2 dX0_saysOf_105 rfl ?_
    refine V_gi (Y := m_X0_saysOf) (pc := 106) 4 kX2 ha1 (by decide +kernel) rfl tw_304 dX0_saysOf_106 ?_
    refine V_bipush (Y := m_X0_saysOf) (pc := 109) (x := (10 : Int32)) dX0_saysOf_109 (by decide +kernel) ?_
    refine V_idiv (Y := m_X0_saysOf) (pc := 111) dX0_saysOf_111 (by decide +kernel) ?_
    refine V_isub (Y := m_X0_saysOf) (pc := 112) dX0_saysOf_112 ?_
    obtain rfl := Option.some.inj hf
    exact V_iret (Y := m_X0_saysOf) rfl dX0_saysOf_113
  rw [if_neg hc10] at hf
  refine V_tswO (Y := m_X0_saysOf) (pc := 17) (tgt := 114) [(1 : Int32), (2 : Int32), (3 : Int32), (4 : Int32), (5 : Int32), (6 : Int32), (7 : Int32)] (List.forall_mem_cons.mpr ⟨hc1, (List.forall_mem_cons.mpr ⟨hc3, (List.forall_mem_cons.mpr ⟨hc5, (List.forall_mem_cons.mpr ⟨hc7, (List.forall_mem_cons.mpr ⟨hc8, (List.forall_mem_cons.mpr ⟨hc9, (List.forall_mem_cons.mpr ⟨hc10, (fun _ h => absurd h List.not_mem_nil)⟩)⟩)⟩)⟩)⟩)⟩)⟩) dX0_saysOf_17 (by decide +kernel) (by decide +kernel) ?_
  exact V_sub [2] rfl (ok_X0_saysOf_b114  a1 M z ha1 hf)
def f_X0_saysOf (a0 : Nat) (a1 : Nat) (M : Mem) : Option (Int32 × Mem) := f_X0_saysOf_b0 a0 a1 M
set_option maxRecDepth 20000 in
set_option maxHeartbeats 4000000 in
theorem ok_X0_saysOf {l : Launch} {g : Gam} {b : Nat} : ∀ (a0 : Nat) (a1 : Nat) (M : Mem) (z : Int32 × Mem), shC[a0]? = some (1, 0) → shC[a1]? = some (1, 2) → f_X0_saysOf a0 a1 M = some z → Cn l g (wC b) m_X0_saysOf [.ref (b + a0), .ref (b + a1)] M (some (.int z.1)) z.2 := fun a0 a1 M z ha0 ha1 hf => Cn_of (by decide +kernel) (Nat.le_of_ble_eq_true rfl) (V_sub [0, 1] rfl (ok_X0_saysOf_b0 a0 a1 M z ha0 ha1 hf))

abbrev m_X0_chosenMark : Mth := (yX0_chosenMark, cX0_chosenMark, 3, some (.object "CoastThree$Mark"), 1)
theorem yf_X0_chosenMark : YF m_X0_chosenMark 2 := ⟨tw_795, tw_71, by decide +kernel, by decide +kernel⟩
def f_X0_chosenMark_b0  (a0 : Nat) (x1 : Int32) (x2 : Int32) (M : Mem) : Option (Nat × Mem) :=
  if ixb ((x1 * (5 : Int32)) + x2) 15 = true then
  if ixb (M (rfC a0 3) (ix ((x1 * (5 : Int32)) + x2))) 24 = true then
  some ((rfC (rfC a0 0) (ix (M (rfC a0 3) (ix ((x1 * (5 : Int32)) + x2))))), M)
  else none
  else none
set_option maxRecDepth 20000 in
set_option maxHeartbeats 4000000 in
theorem ok_X0_chosenMark_b0 {l : Launch} {g : Gam} {b : Nat}   (a0 : Nat) (x1 : Int32) (x2 : Int32) (M : Mem) (z : Nat × Mem) (ha0 : shC[a0]? = some (1, 0)) (hf : f_X0_chosenMark_b0 a0 x1 x2 M = some z) : V l g (wC b) m_X0_chosenMark 0 [(0, .ref (b + a0)), (1, .int x1), (2, .int x2)] [] M (some (.ref (b + z.1))) z.2 := by
  unfold f_X0_chosenMark_b0 at hf
  refine V_aload_n (Y := m_X0_chosenMark) (pc := 0) 0 dX0_chosenMark_0 rfl ?_
  refine V_gr (Y := m_X0_chosenMark) (pc := 1) 0 kX0 ha0 (by decide +kernel) rfl tw_329 dX0_chosenMark_1 ?_
  refine V_aload_n (Y := m_X0_chosenMark) (pc := 4) 0 dX0_chosenMark_4 rfl ?_
  refine V_gr (Y := m_X0_chosenMark) (pc := 5) 3 kX0 ha0 (by decide +kernel) rfl tw_336 dX0_chosenMark_5 ?_
  refine V_iload_n (Y := m_X0_chosenMark) (pc := 8) 1 dX0_chosenMark_8 rfl ?_
  refine V_iconst (Y := m_X0_chosenMark) (pc := 9) (x := (5 : Int32)) dX0_chosenMark_9 (by decide +kernel) ?_
  refine V_imul (Y := m_X0_chosenMark) (pc := 10) dX0_chosenMark_10 ?_
  refine V_iload_n (Y := m_X0_chosenMark) (pc := 11) 2 dX0_chosenMark_11 rfl ?_
  refine V_iadd (Y := m_X0_chosenMark) (pc := 12) dX0_chosenMark_12 ?_
  obtain ⟨hi1, hf⟩ := g_if hf
  refine V_iald (Y := m_X0_chosenMark) (pc := 13) (wtC.1 _ _ ha0 3 _ rfl) hi1 dX0_chosenMark_13 ?_
  obtain ⟨hi2, hf⟩ := g_if hf
  refine V_aald (Y := m_X0_chosenMark) (pc := 14) 1 rfl (wtC.1 _ _ ha0 0 _ rfl) hi2 dX0_chosenMark_14 ?_
  obtain rfl := Option.some.inj hf
  exact V_aret (Y := m_X0_chosenMark) rfl dX0_chosenMark_15
def f_X0_chosenMark (a0 : Nat) (x1 : Int32) (x2 : Int32) (M : Mem) : Option (Nat × Mem) := f_X0_chosenMark_b0 a0 x1 x2 M
set_option maxRecDepth 20000 in
set_option maxHeartbeats 4000000 in
theorem ok_X0_chosenMark {l : Launch} {g : Gam} {b : Nat} : ∀ (a0 : Nat) (x1 : Int32) (x2 : Int32) (M : Mem) (z : Nat × Mem), shC[a0]? = some (1, 0) → f_X0_chosenMark a0 x1 x2 M = some z → Cn l g (wC b) m_X0_chosenMark [.ref (b + a0), .int x1, .int x2] M (some (.ref (b + z.1))) z.2 := fun a0 x1 x2 M z ha0 hf => Cn_of (by decide +kernel) (Nat.le_of_ble_eq_true rfl) (V_sub [0, 1, 2] rfl (ok_X0_chosenMark_b0 a0 x1 x2 M z ha0 hf))
theorem ty_X0_chosenMark (a0 : Nat) (x1 x2 : Int32) (M : Mem) (z : Nat × Mem) (ha0 : shC[a0]? = some (1, 0)) (hf : f_X0_chosenMark a0 x1 x2 M = some z) : shC[z.1]? = some (1, 2) := by
  unfold f_X0_chosenMark f_X0_chosenMark_b0 at hf
  obtain ⟨h1, hf⟩ := g_if hf
  obtain ⟨h2, hf⟩ := g_if hf
  cases hf
  exact wtC.2 _ _ _ (wtC.1 _ _ ha0 0 _ rfl) _ (ixb_lt h2)

abbrev m_X0_isChosen : Mth := (yX0_isChosen, cX0_isChosen, 4, some .boolean, 1)
theorem yf_X0_isChosen : YF m_X0_isChosen 1 := ⟨tw_771, tw_71, by decide +kernel, by decide +kernel⟩
def f_X0_isChosen_b12  : Nat → Nat → Int32 → Int32 → Int32 → Mem → Option (Int32 × Mem)
  | 0, _, _, _, _, _ => none
  | n + 1, a0, x1, x2, x3, M =>
    if ixb x2 3 = true then
    if (M (rfC a0 4) (ix x2)) ≤ x3 then
      some ((0 : Int32), M)
    else
      if ixb ((x2 * (5 : Int32)) + x3) 15 = true then
      if (M (rfC a0 3) (ix ((x2 * (5 : Int32)) + x3))) = x1 then
        some ((1 : Int32), M)
      else
        f_X0_isChosen_b12  n a0 x1 x2 (x3 + (1 : Int32)) M
      else none
    else none
set_option maxRecDepth 20000 in
set_option maxHeartbeats 4000000 in
theorem ok_X0_isChosen_b12 {l : Launch} {g : Gam} {b : Nat}   : ∀ (n : Nat) (a0 : Nat) (x1 : Int32) (x2 : Int32) (x3 : Int32) (M : Mem) (z : Int32 × Mem), (ha0 : shC[a0]? = some (1, 0)) → f_X0_isChosen_b12  n a0 x1 x2 x3 M = some z → V l g (wC b) m_X0_isChosen 12 [(0, .ref (b + a0)), (1, .int x1), (2, .int x2), (3, .int x3)] [] M (some (.int z.1)) z.2 := by
  intro n
  induction n with
  | zero =>
    intro a0 x1 x2 x3 M z ha0 hf
    cases hf
  | succ n ih =>
    intro a0 x1 x2 x3 M z ha0 hf
    rw [f_X0_isChosen_b12] at hf
    refine V_iload_n (Y := m_X0_isChosen) (pc := 12) 3 dX0_isChosen_12 rfl ?_
    refine V_aload_n (Y := m_X0_isChosen) (pc := 13) 0 dX0_isChosen_13 rfl ?_
    refine V_gr (Y := m_X0_isChosen) (pc := 14) 4 kX0 ha0 (by decide +kernel) rfl tw_339 dX0_isChosen_14 ?_
    refine V_iload_n (Y := m_X0_isChosen) (pc := 17) 2 dX0_isChosen_17 rfl ?_
    obtain ⟨hi1, hf⟩ := g_if hf
    refine V_iald (Y := m_X0_isChosen) (pc := 18) (wtC.1 _ _ ha0 4 _ rfl) hi1 dX0_isChosen_18 ?_
    refine V_icmp_ge (Y := m_X0_isChosen) (pc := 19) (tgt := 44) dX0_isChosen_19 (by decide +kernel) hf (fun hf => ?_) (fun hf => ?_)
    · refine V_iconst (Y := m_X0_isChosen) (pc := 44) (x := (0 : Int32)) dX0_isChosen_44 (by decide +kernel) ?_
      obtain rfl := Option.some.inj hf
      exact V_zret (Y := m_X0_isChosen) z01_0 rfl dX0_isChosen_45
    · refine V_aload_n (Y := m_X0_isChosen) (pc := 22) 0 dX0_isChosen_22 rfl ?_
      refine V_gr (Y := m_X0_isChosen) (pc := 23) 3 kX0 ha0 (by decide +kernel) rfl tw_336 dX0_isChosen_23 ?_
      refine V_iload_n (Y := m_X0_isChosen) (pc := 26) 2 dX0_isChosen_26 rfl ?_
      refine V_iconst (Y := m_X0_isChosen) (pc := 27) (x := (5 : Int32)) dX0_isChosen_27 (by decide +kernel) ?_
      refine V_imul (Y := m_X0_isChosen) (pc := 28) dX0_isChosen_28 ?_
      refine V_iload_n (Y := m_X0_isChosen) (pc := 29) 3 dX0_isChosen_29 rfl ?_
      refine V_iadd (Y := m_X0_isChosen) (pc := 30) dX0_isChosen_30 ?_
      obtain ⟨hi2, hf⟩ := g_if hf
      refine V_iald (Y := m_X0_isChosen) (pc := 31) (wtC.1 _ _ ha0 3 _ rfl) hi2 dX0_isChosen_31 ?_
      refine V_iload_n (Y := m_X0_isChosen) (pc := 32) 1 dX0_isChosen_32 rfl ?_
      refine V_icmp_ne (Y := m_X0_isChosen) (pc := 33) (tgt := 38) dX0_isChosen_33 (by decide +kernel) hf (fun hf => ?_) (fun hf => ?_)
      · refine V_iinc (Y := m_X0_isChosen) (pc := 38) (y := (x3 + (1 : Int32))) 3 [(3, .int (x3 + (1 : Int32))), (0, .ref (b + a0)), (1, .int x1), (2, .int x2)] dX0_isChosen_38 rfl rfl (by decide +kernel) rfl ?_
        refine V_goto (Y := m_X0_isChosen) (pc := 41) (tgt := 12) dX0_isChosen_41 (by decide +kernel) ?_
        exact V_sub [1, 2, 3, 0] rfl (ih a0 x1 x2 (x3 + (1 : Int32)) M z ha0 hf)
      · refine V_iconst (Y := m_X0_isChosen) (pc := 36) (x := (1 : Int32)) dX0_isChosen_36 (by decide +kernel) ?_
        obtain rfl := Option.some.inj hf
        exact V_zret (Y := m_X0_isChosen) z01_1 rfl dX0_isChosen_37
def f_X0_isChosen_b0  (a0 : Nat) (x1 : Int32) (M : Mem) : Option (Int32 × Mem) :=
  if ixb x1 24 = true then
  f_X0_isChosen_b12  FU a0 x1 (M (rfC (rfC a0 0) (ix x1)) 1) (0 : Int32) M
  else none
set_option maxRecDepth 20000 in
set_option maxHeartbeats 4000000 in
theorem ok_X0_isChosen_b0 {l : Launch} {g : Gam} {b : Nat}   (a0 : Nat) (x1 : Int32) (M : Mem) (z : Int32 × Mem) (ha0 : shC[a0]? = some (1, 0)) (hf : f_X0_isChosen_b0 a0 x1 M = some z) : V l g (wC b) m_X0_isChosen 0 [(0, .ref (b + a0)), (1, .int x1)] [] M (some (.int z.1)) z.2 := by
  unfold f_X0_isChosen_b0 at hf
  refine V_aload_n (Y := m_X0_isChosen) (pc := 0) 0 dX0_isChosen_0 rfl ?_
  refine V_gr (Y := m_X0_isChosen) (pc := 1) 0 kX0 ha0 (by decide +kernel) rfl tw_329 dX0_isChosen_1 ?_
  refine V_iload_n (Y := m_X0_isChosen) (pc := 4) 1 dX0_isChosen_4 rfl ?_
  obtain ⟨hi1, hf⟩ := g_if hf
  refine V_aald (Y := m_X0_isChosen) (pc := 5) 1 rfl (wtC.1 _ _ ha0 0 _ rfl) hi1 dX0_isChosen_5 ?_
  refine V_gi (Y := m_X0_isChosen) (pc := 6) 1 kX2 (wtC.2 _ _ _ (wtC.1 _ _ ha0 0 _ rfl) _ (ixb_lt hi1)) (by decide +kernel) rfl tw_290 dX0_isChosen_6 ?_
  refine V_istore_n (Y := m_X0_isChosen) (pc := 9) [(2, .int (M (rfC (rfC a0 0) (ix x1)) 1)), (0, .ref (b + a0)), (1, .int x1)] dX0_isChosen_9 (by decide +kernel) rfl ?_
  refine V_iconst (Y := m_X0_isChosen) (pc := 10) (x := (0 : Int32)) dX0_isChosen_10 (by decide +kernel) ?_
  refine V_istore_n (Y := m_X0_isChosen) (pc := 11) [(3, .int (0 : Int32)), (2, .int (M (rfC (rfC a0 0) (ix x1)) 1)), (0, .ref (b + a0)), (1, .int x1)] dX0_isChosen_11 (by decide +kernel) rfl ?_
  exact V_sub [2, 3, 1, 0] rfl (ok_X0_isChosen_b12  FU a0 x1 (M (rfC (rfC a0 0) (ix x1)) 1) (0 : Int32) M z ha0 hf)
def f_X0_isChosen (a0 : Nat) (x1 : Int32) (M : Mem) : Option (Int32 × Mem) := f_X0_isChosen_b0 a0 x1 M
set_option maxRecDepth 20000 in
set_option maxHeartbeats 4000000 in
theorem ok_X0_isChosen {l : Launch} {g : Gam} {b : Nat} : ∀ (a0 : Nat) (x1 : Int32) (M : Mem) (z : Int32 × Mem), shC[a0]? = some (1, 0) → f_X0_isChosen a0 x1 M = some z → Cn l g (wC b) m_X0_isChosen [.ref (b + a0), .int x1] M (some (.int z.1)) z.2 := fun a0 x1 M z ha0 hf => Cn_of (by decide +kernel) (Nat.le_of_ble_eq_true rfl) (V_sub [0, 1] rfl (ok_X0_isChosen_b0 a0 x1 M z ha0 hf))

abbrev m_X0_chosenInAll : Mth := (yX0_chosenInAll, cX0_chosenInAll, 3, some .int, 1)
theorem yf_X0_chosenInAll : YF m_X0_chosenInAll 0 := ⟨tw_780, tw_71, by decide +kernel, by decide +kernel⟩
def f_X0_chosenInAll_b4  : Nat → Nat → Int32 → Int32 → Mem → Option (Int32 × Mem)
  | 0, _, _, _, _ => none
  | n + 1, a0, x1, x2, M =>
    if (3 : Int32) ≤ x2 then
      some (x1, M)
    else
      if ixb x2 3 = true then
      f_X0_chosenInAll_b4  n a0 (x1 + (M (rfC a0 4) (ix x2))) (x2 + (1 : Int32)) M
      else none
set_option maxRecDepth 20000 in
set_option maxHeartbeats 4000000 in
theorem ok_X0_chosenInAll_b4 {l : Launch} {g : Gam} {b : Nat}   : ∀ (n : Nat) (a0 : Nat) (x1 : Int32) (x2 : Int32) (M : Mem) (z : Int32 × Mem), (ha0 : shC[a0]? = some (1, 0)) → f_X0_chosenInAll_b4  n a0 x1 x2 M = some z → V l g (wC b) m_X0_chosenInAll 4 [(0, .ref (b + a0)), (1, .int x1), (2, .int x2)] [] M (some (.int z.1)) z.2 := by
  intro n
  induction n with
  | zero =>
    intro a0 x1 x2 M z ha0 hf
    cases hf
  | succ n ih =>
    intro a0 x1 x2 M z ha0 hf
    rw [f_X0_chosenInAll_b4] at hf
    refine V_iload_n (Y := m_X0_chosenInAll) (pc := 4) 2 dX0_chosenInAll_4 rfl ?_
    refine V_iconst (Y := m_X0_chosenInAll) (pc := 5) (x := (3 : Int32)) dX0_chosenInAll_5 (by decide +kernel) ?_
    refine V_icmp_ge (Y := m_X0_chosenInAll) (pc := 6) (tgt := 24) dX0_chosenInAll_6 (by decide +kernel) hf (fun hf => ?_) (fun hf => ?_)
    · refine V_iload_n (Y := m_X0_chosenInAll) (pc := 24) 1 dX0_chosenInAll_24 rfl ?_
      obtain rfl := Option.some.inj hf
      exact V_iret (Y := m_X0_chosenInAll) rfl dX0_chosenInAll_25
    · refine V_iload_n (Y := m_X0_chosenInAll) (pc := 9) 1 dX0_chosenInAll_9 rfl ?_
      refine V_aload_n (Y := m_X0_chosenInAll) (pc := 10) 0 dX0_chosenInAll_10 rfl ?_
      refine V_gr (Y := m_X0_chosenInAll) (pc := 11) 4 kX0 ha0 (by decide +kernel) rfl tw_339 dX0_chosenInAll_11 ?_
      refine V_iload_n (Y := m_X0_chosenInAll) (pc := 14) 2 dX0_chosenInAll_14 rfl ?_
      obtain ⟨hi1, hf⟩ := g_if hf
      refine V_iald (Y := m_X0_chosenInAll) (pc := 15) (wtC.1 _ _ ha0 4 _ rfl) hi1 dX0_chosenInAll_15 ?_
      refine V_iadd (Y := m_X0_chosenInAll) (pc := 16) dX0_chosenInAll_16 ?_
      refine V_istore_n (Y := m_X0_chosenInAll) (pc := 17) [(1, .int (x1 + (M (rfC a0 4) (ix x2)))), (0, .ref (b + a0)), (2, .int x2)] dX0_chosenInAll_17 (by decide +kernel) rfl ?_
      refine V_iinc (Y := m_X0_chosenInAll) (pc := 18) (y := (x2 + (1 : Int32))) 2 [(2, .int (x2 + (1 : Int32))), (1, .int (x1 + (M (rfC a0 4) (ix x2)))), (0, .ref (b + a0))] dX0_chosenInAll_18 rfl rfl (by decide +kernel) rfl ?_
      refine V_goto (Y := m_X0_chosenInAll) (pc := 21) (tgt := 4) dX0_chosenInAll_21 (by decide +kernel) ?_
      exact V_sub [2, 1, 0] rfl (ih a0 (x1 + (M (rfC a0 4) (ix x2))) (x2 + (1 : Int32)) M z ha0 hf)
def f_X0_chosenInAll_b0  (a0 : Nat) (M : Mem) : Option (Int32 × Mem) :=
  f_X0_chosenInAll_b4  FU a0 (0 : Int32) (0 : Int32) M
set_option maxRecDepth 20000 in
set_option maxHeartbeats 4000000 in
theorem ok_X0_chosenInAll_b0 {l : Launch} {g : Gam} {b : Nat}   (a0 : Nat) (M : Mem) (z : Int32 × Mem) (ha0 : shC[a0]? = some (1, 0)) (hf : f_X0_chosenInAll_b0 a0 M = some z) : V l g (wC b) m_X0_chosenInAll 0 [(0, .ref (b + a0))] [] M (some (.int z.1)) z.2 := by
  unfold f_X0_chosenInAll_b0 at hf
  refine V_iconst (Y := m_X0_chosenInAll) (pc := 0) (x := (0 : Int32)) dX0_chosenInAll_0 (by decide +kernel) ?_
  refine V_istore_n (Y := m_X0_chosenInAll) (pc := 1) [(1, .int (0 : Int32)), (0, .ref (b + a0))] dX0_chosenInAll_1 (by decide +kernel) rfl ?_
  refine V_iconst (Y := m_X0_chosenInAll) (pc := 2) (x := (0 : Int32)) dX0_chosenInAll_2 (by decide +kernel) ?_
  refine V_istore_n (Y := m_X0_chosenInAll) (pc := 3) [(2, .int (0 : Int32)), (1, .int (0 : Int32)), (0, .ref (b + a0))] dX0_chosenInAll_3 (by decide +kernel) rfl ?_
  exact V_sub [2, 1, 0] rfl (ok_X0_chosenInAll_b4  FU a0 (0 : Int32) (0 : Int32) M z ha0 hf)
def f_X0_chosenInAll (a0 : Nat) (M : Mem) : Option (Int32 × Mem) := f_X0_chosenInAll_b0 a0 M
set_option maxRecDepth 20000 in
set_option maxHeartbeats 4000000 in
theorem ok_X0_chosenInAll {l : Launch} {g : Gam} {b : Nat} : ∀ (a0 : Nat) (M : Mem) (z : Int32 × Mem), shC[a0]? = some (1, 0) → f_X0_chosenInAll a0 M = some z → Cn l g (wC b) m_X0_chosenInAll [.ref (b + a0)] M (some (.int z.1)) z.2 := fun a0 M z ha0 hf => Cn_of (by decide +kernel) (Nat.le_of_ble_eq_true rfl) (V_sub [0] rfl (ok_X0_chosenInAll_b0 a0 M z ha0 hf))

abbrev m_X9_passageCode : Mth := (yX9_passageCode, cX9_passageCode, 3, some .int, 1)
theorem yf_X9_passageCode : YF m_X9_passageCode 3 := ⟨tw_822, tw_65, by decide +kernel, by decide +kernel⟩
def f_X9_passageCode_b0  (x0 : Int32) (x1 : Int32) (x2 : Int32) (M : Mem) : Option (Int32 × Mem) :=
  some ((((((imin x0 x1) * (9 : Int32)) + (imax x0 x1)) * (4 : Int32)) + x2), M)
set_option maxRecDepth 20000 in
set_option maxHeartbeats 4000000 in
theorem ok_X9_passageCode_b0 {l : Launch} {g : Gam} {b : Nat}   (x0 : Int32) (x1 : Int32) (x2 : Int32) (M : Mem) (z : Int32 × Mem)  (hf : f_X9_passageCode_b0 x0 x1 x2 M = some z) : V l g (wC b) m_X9_passageCode 0 [(0, .int x0), (1, .int x1), (2, .int x2)] [] M (some (.int z.1)) z.2 := by
  unfold f_X9_passageCode_b0 at hf
  refine V_iload_n (Y := m_X9_passageCode) (pc := 0) 0 dX9_passageCode_0 rfl ?_
  refine V_iload_n (Y := m_X9_passageCode) (pc := 1) 1 dX9_passageCode_1 rfl ?_
  refine V_mmin (Y := m_X9_passageCode) (pc := 2) (by decide +kernel) j_mmin tw_823 (Nat.le_of_ble_eq_true rfl) dX9_passageCode_2 ?_
  refine V_bipush (Y := m_X9_passageCode) (pc := 5) (x := (9 : Int32)) dX9_passageCode_5 (by decide +kernel) ?_
  refine V_imul (Y := m_X9_passageCode) (pc := 7) dX9_passageCode_7 ?_
  refine V_iload_n (Y := m_X9_passageCode) (pc := 8) 0 dX9_passageCode_8 rfl ?_
  refine V_iload_n (Y := m_X9_passageCode) (pc := 9) 1 dX9_passageCode_9 rfl ?_
  refine V_mmax (Y := m_X9_passageCode) (pc := 10) (by decide +kernel) j_mmax tw_824 (Nat.le_of_ble_eq_true rfl) dX9_passageCode_10 ?_
  refine V_iadd (Y := m_X9_passageCode) (pc := 13) dX9_passageCode_13 ?_
  refine V_iconst (Y := m_X9_passageCode) (pc := 14) (x := (4 : Int32)) dX9_passageCode_14 (by decide +kernel) ?_
  refine V_imul (Y := m_X9_passageCode) (pc := 15) dX9_passageCode_15 ?_
  refine V_iload_n (Y := m_X9_passageCode) (pc := 16) 2 dX9_passageCode_16 rfl ?_
  refine V_iadd (Y := m_X9_passageCode) (pc := 17) dX9_passageCode_17 ?_
  obtain rfl := Option.some.inj hf
  exact V_iret (Y := m_X9_passageCode) rfl dX9_passageCode_18
def f_X9_passageCode (x0 : Int32) (x1 : Int32) (x2 : Int32) (M : Mem) : Option (Int32 × Mem) := f_X9_passageCode_b0 x0 x1 x2 M
set_option maxRecDepth 20000 in
set_option maxHeartbeats 4000000 in
theorem ok_X9_passageCode {l : Launch} {g : Gam} {b : Nat} : ∀ (x0 : Int32) (x1 : Int32) (x2 : Int32) (M : Mem) (z : Int32 × Mem), f_X9_passageCode x0 x1 x2 M = some z → Cn l g (wC b) m_X9_passageCode [.int x0, .int x1, .int x2] M (some (.int z.1)) z.2 := fun x0 x1 x2 M z  hf => Cn_of (by decide +kernel) (Nat.le_of_ble_eq_true rfl) (V_sub [0, 1, 2] rfl (ok_X9_passageCode_b0 x0 x1 x2 M z  hf))

abbrev m_X0_passagesOf : Mth := (yX0_passagesOf, cX0_passagesOf, 7, some .int, 2)
theorem yf_X0_passagesOf : YF m_X0_passagesOf 3 := ⟨tw_832, tw_71, by decide +kernel, by decide +kernel⟩
def f_X0_passagesOf_b42 (k14 : Nat → Int32 → Int32 → Int32 → Mem → Option (Int32 × Mem)) (a0 : Nat) (x4 : Int32) (x6 : Int32) (s0 : Int32) (s1 : Int32) (M : Mem) : Option (Int32 × Mem) :=
  k14 a0 x4 (s1 + s0) (x6 + (1 : Int32)) M
set_option maxRecDepth 20000 in
set_option maxHeartbeats 4000000 in
theorem ok_X0_passagesOf_b42 {l : Launch} {g : Gam} {b : Nat} (k14 : Nat → Int32 → Int32 → Int32 → Mem → Option (Int32 × Mem)) (hk14 : ∀ (a0 : Nat) (x4 : Int32) (x5 : Int32) (x6 : Int32) (M : Mem) (z : Int32 × Mem), shC[a0]? = some (1, 0) → k14 a0 x4 x5 x6 M = some z → V l g (wC b) m_X0_passagesOf 14 [(0, .ref (b + a0)), (4, .int x4), (5, .int x5), (6, .int x6)] [] M (some (.int z.1)) z.2) (a0 : Nat) (x4 : Int32) (x6 : Int32) (s0 : Int32) (s1 : Int32) (M : Mem) (z : Int32 × Mem) (ha0 : shC[a0]? = some (1, 0)) (hf : f_X0_passagesOf_b42 k14 a0 x4 x6 s0 s1 M = some z) : V l g (wC b) m_X0_passagesOf 42 [(0, .ref (b + a0)), (4, .int x4), (6, .int x6)] [.int s0, .int s1] M (some (.int z.1)) z.2 := by
  unfold f_X0_passagesOf_b42 at hf
  refine V_iadd (Y := m_X0_passagesOf) (pc := 42) dX0_passagesOf_42 ?_
  refine V_istore (Y := m_X0_passagesOf) (pc := 43) [(5, .int (s1 + s0)), (0, .ref (b + a0)), (4, .int x4), (6, .int x6)] dX0_passagesOf_43 (by decide +kernel) rfl ?_
  refine V_iinc (Y := m_X0_passagesOf) (pc := 45) (y := (x6 + (1 : Int32))) 3 [(6, .int (x6 + (1 : Int32))), (5, .int (s1 + s0)), (0, .ref (b + a0)), (4, .int x4)] dX0_passagesOf_45 rfl rfl (by decide +kernel) rfl ?_
  refine V_goto (Y := m_X0_passagesOf) (pc := 48) (tgt := 14) dX0_passagesOf_48 (by decide +kernel) ?_
  exact V_sub [2, 3, 1, 0] rfl (hk14 a0 x4 (s1 + s0) (x6 + (1 : Int32)) M z ha0 hf)
def f_X0_passagesOf_b14  : Nat → Nat → Int32 → Int32 → Int32 → Mem → Option (Int32 × Mem)
  | 0, _, _, _, _, _ => none
  | n + 1, a0, x4, x5, x6, M =>
    if (M a0 11) ≤ x6 then
      some (x5, M)
    else
      if ixb x6 20 = true then
      if (M (rfC a0 5) (ix x6)) = x4 then
        f_X0_passagesOf_b42 (f_X0_passagesOf_b14  n) a0 x4 x6 (1 : Int32) x5 M
      else
        f_X0_passagesOf_b42 (f_X0_passagesOf_b14  n) a0 x4 x6 (0 : Int32) x5 M
      else none
set_option maxRecDepth 20000 in
set_option maxHeartbeats 4000000 in
theorem ok_X0_passagesOf_b14 {l : Launch} {g : Gam} {b : Nat}   : ∀ (n : Nat) (a0 : Nat) (x4 : Int32) (x5 : Int32) (x6 : Int32) (M : Mem) (z : Int32 × Mem), (ha0 : shC[a0]? = some (1, 0)) → f_X0_passagesOf_b14  n a0 x4 x5 x6 M = some z → V l g (wC b) m_X0_passagesOf 14 [(0, .ref (b + a0)), (4, .int x4), (5, .int x5), (6, .int x6)] [] M (some (.int z.1)) z.2 := by
  intro n
  induction n with
  | zero =>
    intro a0 x4 x5 x6 M z ha0 hf
    cases hf
  | succ n ih =>
    intro a0 x4 x5 x6 M z ha0 hf
    rw [f_X0_passagesOf_b14] at hf
    refine V_iload (Y := m_X0_passagesOf) (pc := 14) 3 dX0_passagesOf_14 rfl ?_
    refine V_aload_n (Y := m_X0_passagesOf) (pc := 16) 0 dX0_passagesOf_16 rfl ?_
    refine V_gi (Y := m_X0_passagesOf) (pc := 17) 11 kX0 ha0 (by decide +kernel) rfl tw_356 dX0_passagesOf_17 ?_
    refine V_icmp_ge (Y := m_X0_passagesOf) (pc := 20) (tgt := 51) dX0_passagesOf_20 (by decide +kernel) hf (fun hf => ?_) (fun hf => ?_)
    · refine V_iload (Y := m_X0_passagesOf) (pc := 51) 2 dX0_passagesOf_51 rfl ?_
      obtain rfl := Option.some.inj hf
      exact V_iret (Y := m_X0_passagesOf) rfl dX0_passagesOf_53
    · refine V_iload (Y := m_X0_passagesOf) (pc := 23) 2 dX0_passagesOf_23 rfl ?_
      refine V_aload_n (Y := m_X0_passagesOf) (pc := 25) 0 dX0_passagesOf_25 rfl ?_
      refine V_gr (Y := m_X0_passagesOf) (pc := 26) 5 kX0 ha0 (by decide +kernel) rfl tw_342 dX0_passagesOf_26 ?_
      refine V_iload (Y := m_X0_passagesOf) (pc := 29) 3 dX0_passagesOf_29 rfl ?_
      obtain ⟨hi1, hf⟩ := g_if hf
      refine V_iald (Y := m_X0_passagesOf) (pc := 31) (wtC.1 _ _ ha0 5 _ rfl) hi1 dX0_passagesOf_31 ?_
      refine V_iload (Y := m_X0_passagesOf) (pc := 32) 1 dX0_passagesOf_32 rfl ?_
      refine V_icmp_ne (Y := m_X0_passagesOf) (pc := 34) (tgt := 41) dX0_passagesOf_34 (by decide +kernel) hf (fun hf => ?_) (fun hf => ?_)
      · refine V_iconst (Y := m_X0_passagesOf) (pc := 41) (x := (0 : Int32)) dX0_passagesOf_41 (by decide +kernel) ?_
        exact V_sub [0, 1, 3] rfl (ok_X0_passagesOf_b42 (f_X0_passagesOf_b14  n) ih a0 x4 x6 (0 : Int32) x5 M z ha0 hf)
      · refine V_iconst (Y := m_X0_passagesOf) (pc := 37) (x := (1 : Int32)) dX0_passagesOf_37 (by decide +kernel) ?_
        refine V_goto (Y := m_X0_passagesOf) (pc := 38) (tgt := 42) dX0_passagesOf_38 (by decide +kernel) ?_
        exact V_sub [0, 1, 3] rfl (ok_X0_passagesOf_b42 (f_X0_passagesOf_b14  n) ih a0 x4 x6 (1 : Int32) x5 M z ha0 hf)
def f_X0_passagesOf_b0  (a0 : Nat) (x1 : Int32) (x2 : Int32) (x3 : Int32) (M : Mem) : Option (Int32 × Mem) :=
  (f_X9_passageCode x1 x2 x3 M).bind fun q1 =>
  f_X0_passagesOf_b14  FU a0 q1.1 (0 : Int32) (0 : Int32) q1.2
set_option maxRecDepth 20000 in
set_option maxHeartbeats 4000000 in
theorem ok_X0_passagesOf_b0 {l : Launch} {g : Gam} {b : Nat}   (a0 : Nat) (x1 : Int32) (x2 : Int32) (x3 : Int32) (M : Mem) (z : Int32 × Mem) (ha0 : shC[a0]? = some (1, 0)) (hf : f_X0_passagesOf_b0 a0 x1 x2 x3 M = some z) : V l g (wC b) m_X0_passagesOf 0 [(0, .ref (b + a0)), (1, .int x1), (2, .int x2), (3, .int x3)] [] M (some (.int z.1)) z.2 := by
  unfold f_X0_passagesOf_b0 at hf
  refine V_iload_n (Y := m_X0_passagesOf) (pc := 0) 1 dX0_passagesOf_0 rfl ?_
  refine V_iload_n (Y := m_X0_passagesOf) (pc := 1) 2 dX0_passagesOf_1 rfl ?_
  refine V_iload_n (Y := m_X0_passagesOf) (pc := 2) 3 dX0_passagesOf_2 rfl ?_
  obtain ⟨q1, hq1, hf⟩ := g_bind hf
  refine V_cSNi (Y := m_X0_passagesOf) (pc := 3) (As := [.int x1, .int x2, .int x3]) yf_X9_passageCode (by decide +kernel) (ok_X9_passageCode x1 x2 x3 M _  hq1) tw_821 nw_833 rfl rfl (Nat.le_of_ble_eq_true rfl) dX0_passagesOf_3 ?_
  refine V_istore (Y := m_X0_passagesOf) (pc := 6) [(4, .int q1.1), (0, .ref (b + a0)), (1, .int x1), (2, .int x2), (3, .int x3)] dX0_passagesOf_6 (by decide +kernel) rfl ?_
  refine V_iconst (Y := m_X0_passagesOf) (pc := 8) (x := (0 : Int32)) dX0_passagesOf_8 (by decide +kernel) ?_
  refine V_istore (Y := m_X0_passagesOf) (pc := 9) [(5, .int (0 : Int32)), (4, .int q1.1), (0, .ref (b + a0)), (1, .int x1), (2, .int x2), (3, .int x3)] dX0_passagesOf_9 (by decide +kernel) rfl ?_
  refine V_iconst (Y := m_X0_passagesOf) (pc := 11) (x := (0 : Int32)) dX0_passagesOf_11 (by decide +kernel) ?_
  refine V_istore (Y := m_X0_passagesOf) (pc := 12) [(6, .int (0 : Int32)), (5, .int (0 : Int32)), (4, .int q1.1), (0, .ref (b + a0)), (1, .int x1), (2, .int x2), (3, .int x3)] dX0_passagesOf_12 (by decide +kernel) rfl ?_
  exact V_sub [3, 2, 1, 0] rfl (ok_X0_passagesOf_b14  FU a0 q1.1 (0 : Int32) (0 : Int32) q1.2 z ha0 hf)
def f_X0_passagesOf (a0 : Nat) (x1 : Int32) (x2 : Int32) (x3 : Int32) (M : Mem) : Option (Int32 × Mem) := f_X0_passagesOf_b0 a0 x1 x2 x3 M
set_option maxRecDepth 20000 in
set_option maxHeartbeats 4000000 in
theorem ok_X0_passagesOf {l : Launch} {g : Gam} {b : Nat} : ∀ (a0 : Nat) (x1 : Int32) (x2 : Int32) (x3 : Int32) (M : Mem) (z : Int32 × Mem), shC[a0]? = some (1, 0) → f_X0_passagesOf a0 x1 x2 x3 M = some z → Cn l g (wC b) m_X0_passagesOf [.ref (b + a0), .int x1, .int x2, .int x3] M (some (.int z.1)) z.2 := fun a0 x1 x2 x3 M z ha0 hf => Cn_of (by decide +kernel) (Nat.le_of_ble_eq_true rfl) (V_sub [0, 1, 2, 3] rfl (ok_X0_passagesOf_b0 a0 x1 x2 x3 M z ha0 hf))

abbrev m_X0_capesNamed : Mth := (yX0_capesNamed, cX0_capesNamed, 4, some .int, 1)
theorem yf_X0_capesNamed : YF m_X0_capesNamed 1 := ⟨tw_841, tw_71, by decide +kernel, by decide +kernel⟩
def f_X0_capesNamed_b53 (k4 : Nat → Int32 → Int32 → Int32 → Mem → Option (Int32 × Mem)) (a0 : Nat) (x1 : Int32) (x2 : Int32) (x3 : Int32) (M : Mem) : Option (Int32 × Mem) :=
  k4 a0 x1 x2 (x3 + (1 : Int32)) M
set_option maxRecDepth 20000 in
set_option maxHeartbeats 4000000 in
theorem ok_X0_capesNamed_b53 {l : Launch} {g : Gam} {b : Nat} (k4 : Nat → Int32 → Int32 → Int32 → Mem → Option (Int32 × Mem)) (hk4 : ∀ (a0 : Nat) (x1 : Int32) (x2 : Int32) (x3 : Int32) (M : Mem) (z : Int32 × Mem), shC[a0]? = some (1, 0) → k4 a0 x1 x2 x3 M = some z → V l g (wC b) m_X0_capesNamed 4 [(0, .ref (b + a0)), (1, .int x1), (2, .int x2), (3, .int x3)] [] M (some (.int z.1)) z.2) (a0 : Nat) (x1 : Int32) (x2 : Int32) (x3 : Int32) (M : Mem) (z : Int32 × Mem) (ha0 : shC[a0]? = some (1, 0)) (hf : f_X0_capesNamed_b53 k4 a0 x1 x2 x3 M = some z) : V l g (wC b) m_X0_capesNamed 53 [(0, .ref (b + a0)), (1, .int x1), (2, .int x2), (3, .int x3)] [] M (some (.int z.1)) z.2 := by
  unfold f_X0_capesNamed_b53 at hf
  refine V_iinc (Y := m_X0_capesNamed) (pc := 53) (y := (x3 + (1 : Int32))) 3 [(3, .int (x3 + (1 : Int32))), (0, .ref (b + a0)), (1, .int x1), (2, .int x2)] dX0_capesNamed_53 rfl rfl (by decide +kernel) rfl ?_
  refine V_goto (Y := m_X0_capesNamed) (pc := 56) (tgt := 4) dX0_capesNamed_56 (by decide +kernel) ?_
  exact V_sub [1, 2, 3, 0] rfl (hk4 a0 x1 x2 (x3 + (1 : Int32)) M z ha0 hf)
def f_X0_capesNamed_b4  : Nat → Nat → Int32 → Int32 → Int32 → Mem → Option (Int32 × Mem)
  | 0, _, _, _, _, _ => none
  | n + 1, a0, x1, x2, x3, M =>
    if (M a0 9) ≤ x3 then
      some (x2, M)
    else
      if ixb x3 24 = true then
      if (M (rfC (rfC a0 0) (ix x3)) 6) = x1 then
        if ixb x3 24 = true then
        if (M (rfC (rfC a0 0) (ix x3)) 5) = (-1000000005 : Int32) then
          f_X0_capesNamed_b53 (f_X0_capesNamed_b4  n) a0 x1 x2 x3 M
        else
          if ixb x3 24 = true then
          f_X0_capesNamed_b53 (f_X0_capesNamed_b4  n) a0 x1 (x2 ||| ((1 : Int32) <<< ((M (rfC (rfC a0 0) (ix x3)) 5) &&& 31))) x3 M
          else none
        else none
      else
        f_X0_capesNamed_b53 (f_X0_capesNamed_b4  n) a0 x1 x2 x3 M
      else none
set_option maxRecDepth 20000 in
set_option maxHeartbeats 4000000 in
theorem ok_X0_capesNamed_b4 {l : Launch} {g : Gam} {b : Nat}   : ∀ (n : Nat) (a0 : Nat) (x1 : Int32) (x2 : Int32) (x3 : Int32) (M : Mem) (z : Int32 × Mem), (ha0 : shC[a0]? = some (1, 0)) → f_X0_capesNamed_b4  n a0 x1 x2 x3 M = some z → V l g (wC b) m_X0_capesNamed 4 [(0, .ref (b + a0)), (1, .int x1), (2, .int x2), (3, .int x3)] [] M (some (.int z.1)) z.2 := by
  intro n
  induction n with
  | zero =>
    intro a0 x1 x2 x3 M z ha0 hf
    cases hf
  | succ n ih =>
    intro a0 x1 x2 x3 M z ha0 hf
    rw [f_X0_capesNamed_b4] at hf
    refine V_iload_n (Y := m_X0_capesNamed) (pc := 4) 3 dX0_capesNamed_4 rfl ?_
    refine V_aload_n (Y := m_X0_capesNamed) (pc := 5) 0 dX0_capesNamed_5 rfl ?_
    refine V_gi (Y := m_X0_capesNamed) (pc := 6) 9 kX0 ha0 (by decide +kernel) rfl tw_350 dX0_capesNamed_6 ?_
    refine V_icmp_ge (Y := m_X0_capesNamed) (pc := 9) (tgt := 59) dX0_capesNamed_9 (by decide +kernel) hf (fun hf => ?_) (fun hf => ?_)
    · refine V_iload_n (Y := m_X0_capesNamed) (pc := 59) 2 dX0_capesNamed_59 rfl ?_
      obtain rfl := Option.some.inj hf
      exact V_iret (Y := m_X0_capesNamed) rfl dX0_capesNamed_60
    · refine V_aload_n (Y := m_X0_capesNamed) (pc := 12) 0 dX0_capesNamed_12 rfl ?_
      refine V_gr (Y := m_X0_capesNamed) (pc := 13) 0 kX0 ha0 (by decide +kernel) rfl tw_329 dX0_capesNamed_13 ?_
      refine V_iload_n (Y := m_X0_capesNamed) (pc := 16) 3 dX0_capesNamed_16 rfl ?_
      obtain ⟨hi1, hf⟩ := g_if hf
      refine V_aald (Y := m_X0_capesNamed) (pc := 17) 1 rfl (wtC.1 _ _ ha0 0 _ rfl) hi1 dX0_capesNamed_17 ?_
      refine V_gi (Y := m_X0_capesNamed) (pc := 18) 6 kX2 (wtC.2 _ _ _ (wtC.1 _ _ ha0 0 _ rfl) _ (ixb_lt hi1)) (by decide +kernel) rfl tw_312 dX0_capesNamed_18 ?_
      refine V_iload_n (Y := m_X0_capesNamed) (pc := 21) 1 dX0_capesNamed_21 rfl ?_
      refine V_icmp_ne (Y := m_X0_capesNamed) (pc := 22) (tgt := 53) dX0_capesNamed_22 (by decide +kernel) hf (fun hf => ?_) (fun hf => ?_)
      · exact V_sub [0, 1, 2, 3] rfl (ok_X0_capesNamed_b53 (f_X0_capesNamed_b4  n) ih a0 x1 x2 x3 M z ha0 hf)
      · refine V_aload_n (Y := m_X0_capesNamed) (pc := 25) 0 dX0_capesNamed_25 rfl ?_
        refine V_gr (Y := m_X0_capesNamed) (pc := 26) 0 kX0 ha0 (by decide +kernel) rfl tw_329 dX0_capesNamed_26 ?_
        refine V_iload_n (Y := m_X0_capesNamed) (pc := 29) 3 dX0_capesNamed_29 rfl ?_
        obtain ⟨hi2, hf⟩ := g_if hf
        refine V_aald (Y := m_X0_capesNamed) (pc := 30) 1 rfl (wtC.1 _ _ ha0 0 _ rfl) hi2 dX0_capesNamed_30 ?_
        refine V_gi (Y := m_X0_capesNamed) (pc := 31) 5 kX2 (wtC.2 _ _ _ (wtC.1 _ _ ha0 0 _ rfl) _ (ixb_lt hi2)) (by decide +kernel) rfl tw_309 dX0_capesNamed_31 ?_
        refine V_ldc (Y := m_X0_capesNamed) (pc := 34) (x := (-1000000005 : Int32)) dX0_capesNamed_34 tw_328 ?_
        refine V_icmp_eq (Y := m_X0_capesNamed) (pc := 36) (tgt := 53) dX0_capesNamed_36 (by decide +kernel) hf (fun hf => ?_) (fun hf => ?_)
        · exact V_sub [0, 1, 2, 3] rfl (ok_X0_capesNamed_b53 (f_X0_capesNamed_b4  n) ih a0 x1 x2 x3 M z ha0 hf)
        · refine V_iload_n (Y := m_X0_capesNamed) (pc := 39) 2 dX0_capesNamed_39 rfl ?_
          refine V_iconst (Y := m_X0_capesNamed) (pc := 40) (x := (1 : Int32)) dX0_capesNamed_40 (by decide +kernel) ?_
          refine V_aload_n (Y := m_X0_capesNamed) (pc := 41) 0 dX0_capesNamed_41 rfl ?_
          refine V_gr (Y := m_X0_capesNamed) (pc := 42) 0 kX0 ha0 (by decide +kernel) rfl tw_329 dX0_capesNamed_42 ?_
          refine V_iload_n (Y := m_X0_capesNamed) (pc := 45) 3 dX0_capesNamed_45 rfl ?_
          obtain ⟨hi3, hf⟩ := g_if hf
          refine V_aald (Y := m_X0_capesNamed) (pc := 46) 1 rfl (wtC.1 _ _ ha0 0 _ rfl) hi3 dX0_capesNamed_46 ?_
          refine V_gi (Y := m_X0_capesNamed) (pc := 47) 5 kX2 (wtC.2 _ _ _ (wtC.1 _ _ ha0 0 _ rfl) _ (ixb_lt hi3)) (by decide +kernel) rfl tw_309 dX0_capesNamed_47 ?_
          refine V_ishl (Y := m_X0_capesNamed) (pc := 50) dX0_capesNamed_50 ?_
          refine V_ior (Y := m_X0_capesNamed) (pc := 51) dX0_capesNamed_51 ?_
          refine V_istore_n (Y := m_X0_capesNamed) (pc := 52) [(2, .int (x2 ||| ((1 : Int32) <<< ((M (rfC (rfC a0 0) (ix x3)) 5) &&& 31)))), (0, .ref (b + a0)), (1, .int x1), (3, .int x3)] dX0_capesNamed_52 (by decide +kernel) rfl ?_
          exact V_sub [1, 2, 0, 3] rfl (ok_X0_capesNamed_b53 (f_X0_capesNamed_b4  n) ih a0 x1 (x2 ||| ((1 : Int32) <<< ((M (rfC (rfC a0 0) (ix x3)) 5) &&& 31))) x3 M z ha0 hf)
def f_X0_capesNamed_b0  (a0 : Nat) (x1 : Int32) (M : Mem) : Option (Int32 × Mem) :=
  f_X0_capesNamed_b4  FU a0 x1 (0 : Int32) (0 : Int32) M
set_option maxRecDepth 20000 in
set_option maxHeartbeats 4000000 in
theorem ok_X0_capesNamed_b0 {l : Launch} {g : Gam} {b : Nat}   (a0 : Nat) (x1 : Int32) (M : Mem) (z : Int32 × Mem) (ha0 : shC[a0]? = some (1, 0)) (hf : f_X0_capesNamed_b0 a0 x1 M = some z) : V l g (wC b) m_X0_capesNamed 0 [(0, .ref (b + a0)), (1, .int x1)] [] M (some (.int z.1)) z.2 := by
  unfold f_X0_capesNamed_b0 at hf
  refine V_iconst (Y := m_X0_capesNamed) (pc := 0) (x := (0 : Int32)) dX0_capesNamed_0 (by decide +kernel) ?_
  refine V_istore_n (Y := m_X0_capesNamed) (pc := 1) [(2, .int (0 : Int32)), (0, .ref (b + a0)), (1, .int x1)] dX0_capesNamed_1 (by decide +kernel) rfl ?_
  refine V_iconst (Y := m_X0_capesNamed) (pc := 2) (x := (0 : Int32)) dX0_capesNamed_2 (by decide +kernel) ?_
  refine V_istore_n (Y := m_X0_capesNamed) (pc := 3) [(3, .int (0 : Int32)), (2, .int (0 : Int32)), (0, .ref (b + a0)), (1, .int x1)] dX0_capesNamed_3 (by decide +kernel) rfl ?_
  exact V_sub [2, 3, 1, 0] rfl (ok_X0_capesNamed_b4  FU a0 x1 (0 : Int32) (0 : Int32) M z ha0 hf)
def f_X0_capesNamed (a0 : Nat) (x1 : Int32) (M : Mem) : Option (Int32 × Mem) := f_X0_capesNamed_b0 a0 x1 M
set_option maxRecDepth 20000 in
set_option maxHeartbeats 4000000 in
theorem ok_X0_capesNamed {l : Launch} {g : Gam} {b : Nat} : ∀ (a0 : Nat) (x1 : Int32) (M : Mem) (z : Int32 × Mem), shC[a0]? = some (1, 0) → f_X0_capesNamed a0 x1 M = some z → Cn l g (wC b) m_X0_capesNamed [.ref (b + a0), .int x1] M (some (.int z.1)) z.2 := fun a0 x1 M z ha0 hf => Cn_of (by decide +kernel) (Nat.le_of_ble_eq_true rfl) (V_sub [0, 1] rfl (ok_X0_capesNamed_b0 a0 x1 M z ha0 hf))

abbrev m_X0_surveyedInAll : Mth := (yX0_surveyedInAll, cX0_surveyedInAll, 3, some .int, 1)
theorem yf_X0_surveyedInAll : YF m_X0_surveyedInAll 0 := ⟨tw_1034, tw_71, by decide +kernel, by decide +kernel⟩
def f_X0_surveyedInAll_b27 (k4 : Nat → Int32 → Int32 → Mem → Option (Int32 × Mem)) (a0 : Nat) (x2 : Int32) (s0 : Int32) (s1 : Int32) (M : Mem) : Option (Int32 × Mem) :=
  k4 a0 (s1 + s0) (x2 + (1 : Int32)) M
set_option maxRecDepth 20000 in
set_option maxHeartbeats 4000000 in
theorem ok_X0_surveyedInAll_b27 {l : Launch} {g : Gam} {b : Nat} (k4 : Nat → Int32 → Int32 → Mem → Option (Int32 × Mem)) (hk4 : ∀ (a0 : Nat) (x1 : Int32) (x2 : Int32) (M : Mem) (z : Int32 × Mem), shC[a0]? = some (1, 0) → k4 a0 x1 x2 M = some z → V l g (wC b) m_X0_surveyedInAll 4 [(0, .ref (b + a0)), (1, .int x1), (2, .int x2)] [] M (some (.int z.1)) z.2) (a0 : Nat) (x2 : Int32) (s0 : Int32) (s1 : Int32) (M : Mem) (z : Int32 × Mem) (ha0 : shC[a0]? = some (1, 0)) (hf : f_X0_surveyedInAll_b27 k4 a0 x2 s0 s1 M = some z) : V l g (wC b) m_X0_surveyedInAll 27 [(0, .ref (b + a0)), (2, .int x2)] [.int s0, .int s1] M (some (.int z.1)) z.2 := by
  unfold f_X0_surveyedInAll_b27 at hf
  refine V_iadd (Y := m_X0_surveyedInAll) (pc := 27) dX0_surveyedInAll_27 ?_
  refine V_istore_n (Y := m_X0_surveyedInAll) (pc := 28) [(1, .int (s1 + s0)), (0, .ref (b + a0)), (2, .int x2)] dX0_surveyedInAll_28 (by decide +kernel) rfl ?_
  refine V_iinc (Y := m_X0_surveyedInAll) (pc := 29) (y := (x2 + (1 : Int32))) 2 [(2, .int (x2 + (1 : Int32))), (1, .int (s1 + s0)), (0, .ref (b + a0))] dX0_surveyedInAll_29 rfl rfl (by decide +kernel) rfl ?_
  refine V_goto (Y := m_X0_surveyedInAll) (pc := 32) (tgt := 4) dX0_surveyedInAll_32 (by decide +kernel) ?_
  exact V_sub [2, 1, 0] rfl (hk4 a0 (s1 + s0) (x2 + (1 : Int32)) M z ha0 hf)
def f_X0_surveyedInAll_b4  : Nat → Nat → Int32 → Int32 → Mem → Option (Int32 × Mem)
  | 0, _, _, _, _ => none
  | n + 1, a0, x1, x2, M =>
    if (9 : Int32) ≤ x2 then
      some (x1, M)
    else
      if ixb x2 9 = true then
      if (M (rfC a0 8) (ix x2)) = (-1000000005 : Int32) then
        f_X0_surveyedInAll_b27 (f_X0_surveyedInAll_b4  n) a0 x2 (0 : Int32) x1 M
      else
        f_X0_surveyedInAll_b27 (f_X0_surveyedInAll_b4  n) a0 x2 (1 : Int32) x1 M
      else none
set_option maxRecDepth 20000 in
set_option maxHeartbeats 4000000 in
theorem ok_X0_surveyedInAll_b4 {l : Launch} {g : Gam} {b : Nat}   : ∀ (n : Nat) (a0 : Nat) (x1 : Int32) (x2 : Int32) (M : Mem) (z : Int32 × Mem), (ha0 : shC[a0]? = some (1, 0)) → f_X0_surveyedInAll_b4  n a0 x1 x2 M = some z → V l g (wC b) m_X0_surveyedInAll 4 [(0, .ref (b + a0)), (1, .int x1), (2, .int x2)] [] M (some (.int z.1)) z.2 := by
  intro n
  induction n with
  | zero =>
    intro a0 x1 x2 M z ha0 hf
    cases hf
  | succ n ih =>
    intro a0 x1 x2 M z ha0 hf
    rw [f_X0_surveyedInAll_b4] at hf
    refine V_iload_n (Y := m_X0_surveyedInAll) (pc := 4) 2 dX0_surveyedInAll_4 rfl ?_
    refine V_bipush (Y := m_X0_surveyedInAll) (pc := 5) (x := (9 : Int32)) dX0_surveyedInAll_5 (by decide +kernel) ?_
    refine V_icmp_ge (Y := m_X0_surveyedInAll) (pc := 7) (tgt := 35) dX0_surveyedInAll_7 (by decide +kernel) hf (fun hf => ?_) (fun hf => ?_)
    · refine V_iload_n (Y := m_X0_surveyedInAll) (pc := 35) 1 dX0_surveyedInAll_35 rfl ?_
      obtain rfl := Option.some.inj hf
      exact V_iret (Y := m_X0_surveyedInAll) rfl dX0_surveyedInAll_36
    · refine V_iload_n (Y := m_X0_surveyedInAll) (pc := 10) 1 dX0_surveyedInAll_10 rfl ?_
      refine V_aload_n (Y := m_X0_surveyedInAll) (pc := 11) 0 dX0_surveyedInAll_11 rfl ?_
      refine V_gr (Y := m_X0_surveyedInAll) (pc := 12) 8 kX0 ha0 (by decide +kernel) rfl tw_348 dX0_surveyedInAll_12 ?_
      refine V_iload_n (Y := m_X0_surveyedInAll) (pc := 15) 2 dX0_surveyedInAll_15 rfl ?_
      obtain ⟨hi1, hf⟩ := g_if hf
      refine V_iald (Y := m_X0_surveyedInAll) (pc := 16) (wtC.1 _ _ ha0 8 _ rfl) hi1 dX0_surveyedInAll_16 ?_
      refine V_ldc (Y := m_X0_surveyedInAll) (pc := 17) (x := (-1000000005 : Int32)) dX0_surveyedInAll_17 tw_328 ?_
      refine V_icmp_eq (Y := m_X0_surveyedInAll) (pc := 19) (tgt := 26) dX0_surveyedInAll_19 (by decide +kernel) hf (fun hf => ?_) (fun hf => ?_)
      · refine V_iconst (Y := m_X0_surveyedInAll) (pc := 26) (x := (0 : Int32)) dX0_surveyedInAll_26 (by decide +kernel) ?_
        exact V_sub [0, 2] rfl (ok_X0_surveyedInAll_b27 (f_X0_surveyedInAll_b4  n) ih a0 x2 (0 : Int32) x1 M z ha0 hf)
      · refine V_iconst (Y := m_X0_surveyedInAll) (pc := 22) (x := (1 : Int32)) dX0_surveyedInAll_22 (by decide +kernel) ?_
        refine V_goto (Y := m_X0_surveyedInAll) (pc := 23) (tgt := 27) dX0_surveyedInAll_23 (by decide +kernel) ?_
        exact V_sub [0, 2] rfl (ok_X0_surveyedInAll_b27 (f_X0_surveyedInAll_b4  n) ih a0 x2 (1 : Int32) x1 M z ha0 hf)
def f_X0_surveyedInAll_b0  (a0 : Nat) (M : Mem) : Option (Int32 × Mem) :=
  f_X0_surveyedInAll_b4  FU a0 (0 : Int32) (0 : Int32) M
set_option maxRecDepth 20000 in
set_option maxHeartbeats 4000000 in
theorem ok_X0_surveyedInAll_b0 {l : Launch} {g : Gam} {b : Nat}   (a0 : Nat) (M : Mem) (z : Int32 × Mem) (ha0 : shC[a0]? = some (1, 0)) (hf : f_X0_surveyedInAll_b0 a0 M = some z) : V l g (wC b) m_X0_surveyedInAll 0 [(0, .ref (b + a0))] [] M (some (.int z.1)) z.2 := by
  unfold f_X0_surveyedInAll_b0 at hf
  refine V_iconst (Y := m_X0_surveyedInAll) (pc := 0) (x := (0 : Int32)) dX0_surveyedInAll_0 (by decide +kernel) ?_
  refine V_istore_n (Y := m_X0_surveyedInAll) (pc := 1) [(1, .int (0 : Int32)), (0, .ref (b + a0))] dX0_surveyedInAll_1 (by decide +kernel) rfl ?_
  refine V_iconst (Y := m_X0_surveyedInAll) (pc := 2) (x := (0 : Int32)) dX0_surveyedInAll_2 (by decide +kernel) ?_
  refine V_istore_n (Y := m_X0_surveyedInAll) (pc := 3) [(2, .int (0 : Int32)), (1, .int (0 : Int32)), (0, .ref (b + a0))] dX0_surveyedInAll_3 (by decide +kernel) rfl ?_
  exact V_sub [2, 1, 0] rfl (ok_X0_surveyedInAll_b4  FU a0 (0 : Int32) (0 : Int32) M z ha0 hf)
def f_X0_surveyedInAll (a0 : Nat) (M : Mem) : Option (Int32 × Mem) := f_X0_surveyedInAll_b0 a0 M
set_option maxRecDepth 20000 in
set_option maxHeartbeats 4000000 in
theorem ok_X0_surveyedInAll {l : Launch} {g : Gam} {b : Nat} : ∀ (a0 : Nat) (M : Mem) (z : Int32 × Mem), shC[a0]? = some (1, 0) → f_X0_surveyedInAll a0 M = some z → Cn l g (wC b) m_X0_surveyedInAll [.ref (b + a0)] M (some (.int z.1)) z.2 := fun a0 M z ha0 hf => Cn_of (by decide +kernel) (Nat.le_of_ble_eq_true rfl) (V_sub [0] rfl (ok_X0_surveyedInAll_b0 a0 M z ha0 hf))

abbrev m_X0_isToBeMissed : Mth := (yX0_isToBeMissed, cX0_isToBeMissed, 3, some .boolean, 1)
theorem yf_X0_isToBeMissed : YF m_X0_isToBeMissed 2 := ⟨tw_933, tw_71, by decide +kernel, by decide +kernel⟩
def f_X0_isToBeMissed_b0  (a0 : Nat) (a1 : Nat) (x2 : Int32) (M : Mem) : Option (Int32 × Mem) :=
  if (M a1 1) = x2 then
    if (M a1 5) = (-1000000005 : Int32) then
      some ((0 : Int32), M)
    else
      if ixb (M a1 5) 9 = true then
      if (M (rfC a0 8) (ix (M a1 5))) = (-1000000005 : Int32) then
        some ((0 : Int32), M)
      else
        some ((1 : Int32), M)
      else none
  else
    some ((0 : Int32), M)
set_option maxRecDepth 20000 in
set_option maxHeartbeats 4000000 in
theorem ok_X0_isToBeMissed_b0 {l : Launch} {g : Gam} {b : Nat}   (a0 : Nat) (a1 : Nat) (x2 : Int32) (M : Mem) (z : Int32 × Mem) (ha0 : shC[a0]? = some (1, 0)) (ha1 : shC[a1]? = some (1, 2)) (hf : f_X0_isToBeMissed_b0 a0 a1 x2 M = some z) : V l g (wC b) m_X0_isToBeMissed 0 [(0, .ref (b + a0)), (1, .ref (b + a1)), (2, .int x2)] [] M (some (.int z.1)) z.2 := by
  unfold f_X0_isToBeMissed_b0 at hf
  refine V_aload_n (Y := m_X0_isToBeMissed) (pc := 0) 1 dX0_isToBeMissed_0 rfl ?_
  refine V_gi (Y := m_X0_isToBeMissed) (pc := 1) 1 kX2 ha1 (by decide +kernel) rfl tw_290 dX0_isToBeMissed_1 ?_
  refine V_iload_n (Y := m_X0_isToBeMissed) (pc := 4) 2 dX0_isToBeMissed_4 rfl ?_
  refine V_icmp_ne (Y := m_X0_isToBeMissed) (pc := 5) (tgt := 35) dX0_isToBeMissed_5 (by decide +kernel) hf (fun hf => ?_) (fun hf => ?_)
  · refine V_iconst (Y := m_X0_isToBeMissed) (pc := 35) (x := (0 : Int32)) dX0_isToBeMissed_35 (by decide +kernel) ?_
    obtain rfl := Option.some.inj hf
    exact V_zret (Y := m_X0_isToBeMissed) z01_0 rfl dX0_isToBeMissed_36
  · refine V_aload_n (Y := m_X0_isToBeMissed) (pc := 8) 1 dX0_isToBeMissed_8 rfl ?_
    refine V_gi (Y := m_X0_isToBeMissed) (pc := 9) 5 kX2 ha1 (by decide +kernel) rfl tw_309 dX0_isToBeMissed_9 ?_
    refine V_ldc (Y := m_X0_isToBeMissed) (pc := 12) (x := (-1000000005 : Int32)) dX0_isToBeMissed_12 tw_328 ?_
    refine V_icmp_eq (Y := m_X0_isToBeMissed) (pc := 14) (tgt := 35) dX0_isToBeMissed_14 (by decide +kernel) hf (fun hf => ?_) (fun hf => ?_)
    · refine V_iconst (Y := m_X0_isToBeMissed) (pc := 35) (x := (0 : Int32)) dX0_isToBeMissed_35 (by decide +kernel) ?_
      obtain rfl := Option.some.inj hf
      exact V_zret (Y := m_X0_isToBeMissed) z01_0 rfl dX0_isToBeMissed_36
    · refine V_aload_n (Y := m_X0_isToBeMissed) (pc := 17) 0 dX0_isToBeMissed_17 rfl ?_
      refine V_gr (Y := m_X0_isToBeMissed) (pc := 18) 8 kX0 ha0 (by decide +kernel) rfl tw_348 dX0_isToBeMissed_18 ?_
      refine V_aload_n (Y := m_X0_isToBeMissed) (pc := 21) 1 dX0_isToBeMissed_21 rfl ?_
      refine V_gi (Y := m_X0_isToBeMissed) (pc := 22) 5 kX2 ha1 (by decide +kernel) rfl tw_309 dX0_isToBeMissed_22 ?_
      obtain ⟨hi1, hf⟩ := g_if hf
      refine V_iald (Y := m_X0_isToBeMissed) (pc := 25) (wtC.1 _ _ ha0 8 _ rfl) hi1 dX0_isToBeMissed_25 ?_
      refine V_ldc (Y := m_X0_isToBeMissed) (pc := 26) (x := (-1000000005 : Int32)) dX0_isToBeMissed_26 tw_328 ?_
      refine V_icmp_eq (Y := m_X0_isToBeMissed) (pc := 28) (tgt := 35) dX0_isToBeMissed_28 (by decide +kernel) hf (fun hf => ?_) (fun hf => ?_)
      · refine V_iconst (Y := m_X0_isToBeMissed) (pc := 35) (x := (0 : Int32)) dX0_isToBeMissed_35 (by decide +kernel) ?_
        obtain rfl := Option.some.inj hf
        exact V_zret (Y := m_X0_isToBeMissed) z01_0 rfl dX0_isToBeMissed_36
      · refine V_iconst (Y := m_X0_isToBeMissed) (pc := 31) (x := (1 : Int32)) dX0_isToBeMissed_31 (by decide +kernel) ?_
        refine V_goto (Y := m_X0_isToBeMissed) (pc := 32) (tgt := 36) dX0_isToBeMissed_32 (by decide +kernel) ?_
        obtain rfl := Option.some.inj hf
        exact V_zret (Y := m_X0_isToBeMissed) z01_1 rfl dX0_isToBeMissed_36
def f_X0_isToBeMissed (a0 : Nat) (a1 : Nat) (x2 : Int32) (M : Mem) : Option (Int32 × Mem) := f_X0_isToBeMissed_b0 a0 a1 x2 M
set_option maxRecDepth 20000 in
set_option maxHeartbeats 4000000 in
theorem ok_X0_isToBeMissed {l : Launch} {g : Gam} {b : Nat} : ∀ (a0 : Nat) (a1 : Nat) (x2 : Int32) (M : Mem) (z : Int32 × Mem), shC[a0]? = some (1, 0) → shC[a1]? = some (1, 2) → f_X0_isToBeMissed a0 a1 x2 M = some z → Cn l g (wC b) m_X0_isToBeMissed [.ref (b + a0), .ref (b + a1), .int x2] M (some (.int z.1)) z.2 := fun a0 a1 x2 M z ha0 ha1 hf => Cn_of (by decide +kernel) (Nat.le_of_ble_eq_true rfl) (V_sub [0, 1, 2] rfl (ok_X0_isToBeMissed_b0 a0 a1 x2 M z ha0 ha1 hf))

abbrev m_X0_missesOf : Mth := (yX0_missesOf, cX0_missesOf, 5, some .int, 6)
theorem yf_X0_missesOf : YF m_X0_missesOf 1 := ⟨tw_929, tw_71, by decide +kernel, by decide +kernel⟩
def f_X0_missesOf_b55 (k4 : Nat → Int32 → Int32 → Int32 → Mem → Option (Int32 × Mem)) (a0 : Nat) (x1 : Int32) (x3 : Int32) (s0 : Int32) (s1 : Int32) (M : Mem) : Option (Int32 × Mem) :=
  k4 a0 x1 (s1 + s0) (x3 + (1 : Int32)) M
set_option maxRecDepth 20000 in
set_option maxHeartbeats 4000000 in
theorem ok_X0_missesOf_b55 {l : Launch} {g : Gam} {b : Nat} (k4 : Nat → Int32 → Int32 → Int32 → Mem → Option (Int32 × Mem)) (hk4 : ∀ (a0 : Nat) (x1 : Int32) (x2 : Int32) (x3 : Int32) (M : Mem) (z : Int32 × Mem), shC[a0]? = some (1, 0) → k4 a0 x1 x2 x3 M = some z → V l g (wC b) m_X0_missesOf 4 [(0, .ref (b + a0)), (1, .int x1), (2, .int x2), (3, .int x3)] [] M (some (.int z.1)) z.2) (a0 : Nat) (x1 : Int32) (x3 : Int32) (s0 : Int32) (s1 : Int32) (M : Mem) (z : Int32 × Mem) (ha0 : shC[a0]? = some (1, 0)) (hf : f_X0_missesOf_b55 k4 a0 x1 x3 s0 s1 M = some z) : V l g (wC b) m_X0_missesOf 55 [(0, .ref (b + a0)), (1, .int x1), (3, .int x3)] [.int s0, .int s1] M (some (.int z.1)) z.2 := by
  unfold f_X0_missesOf_b55 at hf
  refine V_iadd (Y := m_X0_missesOf) (pc := 55) dX0_missesOf_55 ?_
  refine V_istore_n (Y := m_X0_missesOf) (pc := 56) [(2, .int (s1 + s0)), (0, .ref (b + a0)), (1, .int x1), (3, .int x3)] dX0_missesOf_56 (by decide +kernel) rfl ?_
  refine V_iinc (Y := m_X0_missesOf) (pc := 57) (y := (x3 + (1 : Int32))) 3 [(3, .int (x3 + (1 : Int32))), (2, .int (s1 + s0)), (0, .ref (b + a0)), (1, .int x1)] dX0_missesOf_57 rfl rfl (by decide +kernel) rfl ?_
  refine V_goto (Y := m_X0_missesOf) (pc := 60) (tgt := 4) dX0_missesOf_60 (by decide +kernel) ?_
  exact V_sub [2, 3, 1, 0] rfl (hk4 a0 x1 (s1 + s0) (x3 + (1 : Int32)) M z ha0 hf)
def f_X0_missesOf_b4  : Nat → Nat → Int32 → Int32 → Int32 → Mem → Option (Int32 × Mem)
  | 0, _, _, _, _, _ => none
  | n + 1, a0, x1, x2, x3, M =>
    if (M a0 9) ≤ x3 then
      some (x2, M)
    else
      if ixb x3 24 = true then
      (f_X0_isToBeMissed a0 (rfC (rfC a0 0) (ix x3)) x1 M).bind fun q2 =>
      if q2.1 = 0 then
        f_X0_missesOf_b55 (f_X0_missesOf_b4  n) a0 x1 x3 (0 : Int32) x2 q2.2
      else
        (f_X0_saysOf a0 (rfC (rfC a0 0) (ix x3)) q2.2).bind fun q3 =>
        if ixb (q3.2 (rfC (rfC a0 0) (ix x3)) 5) 9 = true then
        f_X0_missesOf_b55 (f_X0_missesOf_b4  n) a0 x1 x3 (iabs (q3.1 - (q3.2 (rfC a0 8) (ix (q3.2 (rfC (rfC a0 0) (ix x3)) 5))))) x2 q3.2
        else none
      else none
set_option maxRecDepth 20000 in
set_option maxHeartbeats 4000000 in
theorem ok_X0_missesOf_b4 {l : Launch} {g : Gam} {b : Nat}   : ∀ (n : Nat) (a0 : Nat) (x1 : Int32) (x2 : Int32) (x3 : Int32) (M : Mem) (z : Int32 × Mem), (ha0 : shC[a0]? = some (1, 0)) → f_X0_missesOf_b4  n a0 x1 x2 x3 M = some z → V l g (wC b) m_X0_missesOf 4 [(0, .ref (b + a0)), (1, .int x1), (2, .int x2), (3, .int x3)] [] M (some (.int z.1)) z.2 := by
  intro n
  induction n with
  | zero =>
    intro a0 x1 x2 x3 M z ha0 hf
    cases hf
  | succ n ih =>
    intro a0 x1 x2 x3 M z ha0 hf
    rw [f_X0_missesOf_b4] at hf
    refine V_iload_n (Y := m_X0_missesOf) (pc := 4) 3 dX0_missesOf_4 rfl ?_
    refine V_aload_n (Y := m_X0_missesOf) (pc := 5) 0 dX0_missesOf_5 rfl ?_
    refine V_gi (Y := m_X0_missesOf) (pc := 6) 9 kX0 ha0 (by decide +kernel) rfl tw_350 dX0_missesOf_6 ?_
    refine V_icmp_ge (Y := m_X0_missesOf) (pc := 9) (tgt := 63) dX0_missesOf_9 (by decide +kernel) hf (fun hf => ?_) (fun hf => ?_)
    · refine V_iload_n (Y := m_X0_missesOf) (pc := 63) 2 dX0_missesOf_63 rfl ?_
      obtain rfl := Option.some.inj hf
      exact V_iret (Y := m_X0_missesOf) rfl dX0_missesOf_64
    · refine V_aload_n (Y := m_X0_missesOf) (pc := 12) 0 dX0_missesOf_12 rfl ?_
      refine V_gr (Y := m_X0_missesOf) (pc := 13) 0 kX0 ha0 (by decide +kernel) rfl tw_329 dX0_missesOf_13 ?_
      refine V_iload_n (Y := m_X0_missesOf) (pc := 16) 3 dX0_missesOf_16 rfl ?_
      obtain ⟨hi1, hf⟩ := g_if hf
      refine V_aald (Y := m_X0_missesOf) (pc := 17) 1 rfl (wtC.1 _ _ ha0 0 _ rfl) hi1 dX0_missesOf_17 ?_
      refine V_astore (Y := m_X0_missesOf) (pc := 18) [(4, .ref (b + (rfC (rfC a0 0) (ix x3)))), (0, .ref (b + a0)), (1, .int x1), (2, .int x2), (3, .int x3)] dX0_missesOf_18 (by decide +kernel) rfl ?_
      refine V_iload_n (Y := m_X0_missesOf) (pc := 20) 3 dX0_missesOf_20 rfl ?_
      refine V_aload_n (Y := m_X0_missesOf) (pc := 21) 1 dX0_missesOf_21 rfl ?_
      refine V_aload (Y := m_X0_missesOf) (pc := 22) 0 dX0_missesOf_22 rfl ?_
      refine V_iload_n (Y := m_X0_missesOf) (pc := 24) 2 dX0_missesOf_24 rfl ?_
      obtain ⟨q2, hq2, hf⟩ := g_bind hf
      refine V_cVi (Y := m_X0_missesOf) (pc := 25) (As := [.ref (b + (rfC (rfC a0 0) (ix x3))), .int x1]) yf_X0_isToBeMissed kX0 ha0 (by decide +kernel) (ok_X0_isToBeMissed a0 (rfC (rfC a0 0) (ix x3)) x1 M _ ha0 (wtC.2 _ _ _ (wtC.1 _ _ ha0 0 _ rfl) _ (ixb_lt hi1)) hq2) tw_931 tw_932 tw_930 rfl rfl (Nat.le_of_ble_eq_true rfl) dX0_missesOf_25 ?_
      refine V_if_eq (Y := m_X0_missesOf) (pc := 28) (tgt := 54) dX0_missesOf_28 (by decide +kernel) hf (fun hf => ?_) (fun hf => ?_)
      · refine V_iconst (Y := m_X0_missesOf) (pc := 54) (x := (0 : Int32)) dX0_missesOf_54 (by decide +kernel) ?_
        exact V_sub [1, 2, 4] rfl (ok_X0_missesOf_b55 (f_X0_missesOf_b4  n) ih a0 x1 x3 (0 : Int32) x2 q2.2 z ha0 hf)
      · refine V_aload_n (Y := m_X0_missesOf) (pc := 31) 1 dX0_missesOf_31 rfl ?_
        refine V_aload (Y := m_X0_missesOf) (pc := 32) 0 dX0_missesOf_32 rfl ?_
        obtain ⟨q3, hq3, hf⟩ := g_bind hf
        refine V_cVi (Y := m_X0_missesOf) (pc := 34) (As := [.ref (b + (rfC (rfC a0 0) (ix x3)))]) yf_X0_saysOf kX0 ha0 (by decide +kernel) (ok_X0_saysOf a0 (rfC (rfC a0 0) (ix x3)) q2.2 _ ha0 (wtC.2 _ _ _ (wtC.1 _ _ ha0 0 _ rfl) _ (ixb_lt hi1)) hq3) tw_498 tw_499 tw_934 rfl rfl (Nat.le_of_ble_eq_true rfl) dX0_missesOf_34 ?_
        refine V_aload_n (Y := m_X0_missesOf) (pc := 37) 1 dX0_missesOf_37 rfl ?_
        refine V_gr (Y := m_X0_missesOf) (pc := 38) 8 kX0 ha0 (by decide +kernel) rfl tw_348 dX0_missesOf_38 ?_
        refine V_aload (Y := m_X0_missesOf) (pc := 41) 0 dX0_missesOf_41 rfl ?_
        refine V_gi (Y := m_X0_missesOf) (pc := 43) 5 kX2 (wtC.2 _ _ _ (wtC.1 _ _ ha0 0 _ rfl) _ (ixb_lt hi1)) (by decide +kernel) rfl tw_309 dX0_missesOf_43 ?_
        obtain ⟨hi4, hf⟩ := g_if hf
        refine V_iald (Y := m_X0_missesOf) (pc := 46) (wtC.1 _ _ ha0 8 _ rfl) hi4 dX0_missesOf_46 ?_
        refine V_isub (Y := m_X0_missesOf) (pc := 47) dX0_missesOf_47 ?_
        refine V_mabs (Y := m_X0_missesOf) (pc := 48) (by decide +kernel) j_mabs tw_935 (Nat.le_of_ble_eq_true rfl) dX0_missesOf_48 ?_
        refine V_goto (Y := m_X0_missesOf) (pc := 51) (tgt := 55) dX0_missesOf_51 (by decide +kernel) ?_
        exact V_sub [1, 2, 4] rfl (ok_X0_missesOf_b55 (f_X0_missesOf_b4  n) ih a0 x1 x3 (iabs (q3.1 - (q3.2 (rfC a0 8) (ix (q3.2 (rfC (rfC a0 0) (ix x3)) 5))))) x2 q3.2 z ha0 hf)
def f_X0_missesOf_b0  (a0 : Nat) (x1 : Int32) (M : Mem) : Option (Int32 × Mem) :=
  f_X0_missesOf_b4  FU a0 x1 (0 : Int32) (0 : Int32) M
set_option maxRecDepth 20000 in
set_option maxHeartbeats 4000000 in
theorem ok_X0_missesOf_b0 {l : Launch} {g : Gam} {b : Nat}   (a0 : Nat) (x1 : Int32) (M : Mem) (z : Int32 × Mem) (ha0 : shC[a0]? = some (1, 0)) (hf : f_X0_missesOf_b0 a0 x1 M = some z) : V l g (wC b) m_X0_missesOf 0 [(0, .ref (b + a0)), (1, .int x1)] [] M (some (.int z.1)) z.2 := by
  unfold f_X0_missesOf_b0 at hf
  refine V_iconst (Y := m_X0_missesOf) (pc := 0) (x := (0 : Int32)) dX0_missesOf_0 (by decide +kernel) ?_
  refine V_istore_n (Y := m_X0_missesOf) (pc := 1) [(2, .int (0 : Int32)), (0, .ref (b + a0)), (1, .int x1)] dX0_missesOf_1 (by decide +kernel) rfl ?_
  refine V_iconst (Y := m_X0_missesOf) (pc := 2) (x := (0 : Int32)) dX0_missesOf_2 (by decide +kernel) ?_
  refine V_istore_n (Y := m_X0_missesOf) (pc := 3) [(3, .int (0 : Int32)), (2, .int (0 : Int32)), (0, .ref (b + a0)), (1, .int x1)] dX0_missesOf_3 (by decide +kernel) rfl ?_
  exact V_sub [2, 3, 1, 0] rfl (ok_X0_missesOf_b4  FU a0 x1 (0 : Int32) (0 : Int32) M z ha0 hf)
def f_X0_missesOf (a0 : Nat) (x1 : Int32) (M : Mem) : Option (Int32 × Mem) := f_X0_missesOf_b0 a0 x1 M
set_option maxRecDepth 20000 in
set_option maxHeartbeats 4000000 in
theorem ok_X0_missesOf {l : Launch} {g : Gam} {b : Nat} : ∀ (a0 : Nat) (x1 : Int32) (M : Mem) (z : Int32 × Mem), shC[a0]? = some (1, 0) → f_X0_missesOf a0 x1 M = some z → Cn l g (wC b) m_X0_missesOf [.ref (b + a0), .int x1] M (some (.int z.1)) z.2 := fun a0 x1 M z ha0 hf => Cn_of (by decide +kernel) (Nat.le_of_ble_eq_true rfl) (V_sub [0, 1] rfl (ok_X0_missesOf_b0 a0 x1 M z ha0 hf))

abbrev m_X0_missingMarksOf : Mth := (yX0_missingMarksOf, cX0_missingMarksOf, 4, some .int, 2)
theorem yf_X0_missingMarksOf : YF m_X0_missingMarksOf 1 := ⟨tw_939, tw_71, by decide +kernel, by decide +kernel⟩
def f_X0_missingMarksOf_b32 (k4 : Nat → Int32 → Int32 → Int32 → Mem → Option (Int32 × Mem)) (a0 : Nat) (x1 : Int32) (x3 : Int32) (s0 : Int32) (s1 : Int32) (M : Mem) : Option (Int32 × Mem) :=
  k4 a0 x1 (s1 + s0) (x3 + (1 : Int32)) M
set_option maxRecDepth 20000 in
set_option maxHeartbeats 4000000 in
theorem ok_X0_missingMarksOf_b32 {l : Launch} {g : Gam} {b : Nat} (k4 : Nat → Int32 → Int32 → Int32 → Mem → Option (Int32 × Mem)) (hk4 : ∀ (a0 : Nat) (x1 : Int32) (x2 : Int32) (x3 : Int32) (M : Mem) (z : Int32 × Mem), shC[a0]? = some (1, 0) → k4 a0 x1 x2 x3 M = some z → V l g (wC b) m_X0_missingMarksOf 4 [(0, .ref (b + a0)), (1, .int x1), (2, .int x2), (3, .int x3)] [] M (some (.int z.1)) z.2) (a0 : Nat) (x1 : Int32) (x3 : Int32) (s0 : Int32) (s1 : Int32) (M : Mem) (z : Int32 × Mem) (ha0 : shC[a0]? = some (1, 0)) (hf : f_X0_missingMarksOf_b32 k4 a0 x1 x3 s0 s1 M = some z) : V l g (wC b) m_X0_missingMarksOf 32 [(0, .ref (b + a0)), (1, .int x1), (3, .int x3)] [.int s0, .int s1] M (some (.int z.1)) z.2 := by
  unfold f_X0_missingMarksOf_b32 at hf
  refine V_iadd (Y := m_X0_missingMarksOf) (pc := 32) dX0_missingMarksOf_32 ?_
  refine V_istore_n (Y := m_X0_missingMarksOf) (pc := 33) [(2, .int (s1 + s0)), (0, .ref (b + a0)), (1, .int x1), (3, .int x3)] dX0_missingMarksOf_33 (by decide +kernel) rfl ?_
  refine V_iinc (Y := m_X0_missingMarksOf) (pc := 34) (y := (x3 + (1 : Int32))) 3 [(3, .int (x3 + (1 : Int32))), (2, .int (s1 + s0)), (0, .ref (b + a0)), (1, .int x1)] dX0_missingMarksOf_34 rfl rfl (by decide +kernel) rfl ?_
  refine V_goto (Y := m_X0_missingMarksOf) (pc := 37) (tgt := 4) dX0_missingMarksOf_37 (by decide +kernel) ?_
  exact V_sub [2, 3, 1, 0] rfl (hk4 a0 x1 (s1 + s0) (x3 + (1 : Int32)) M z ha0 hf)
def f_X0_missingMarksOf_b4  : Nat → Nat → Int32 → Int32 → Int32 → Mem → Option (Int32 × Mem)
  | 0, _, _, _, _, _ => none
  | n + 1, a0, x1, x2, x3, M =>
    if (M a0 9) ≤ x3 then
      some (x2, M)
    else
      if ixb x3 24 = true then
      (f_X0_isToBeMissed a0 (rfC (rfC a0 0) (ix x3)) x1 M).bind fun q2 =>
      if q2.1 = 0 then
        f_X0_missingMarksOf_b32 (f_X0_missingMarksOf_b4  n) a0 x1 x3 (0 : Int32) x2 q2.2
      else
        f_X0_missingMarksOf_b32 (f_X0_missingMarksOf_b4  n) a0 x1 x3 (1 : Int32) x2 q2.2
      else none
set_option maxRecDepth 20000 in
set_option maxHeartbeats 4000000 in
theorem ok_X0_missingMarksOf_b4 {l : Launch} {g : Gam} {b : Nat}   : ∀ (n : Nat) (a0 : Nat) (x1 : Int32) (x2 : Int32) (x3 : Int32) (M : Mem) (z : Int32 × Mem), (ha0 : shC[a0]? = some (1, 0)) → f_X0_missingMarksOf_b4  n a0 x1 x2 x3 M = some z → V l g (wC b) m_X0_missingMarksOf 4 [(0, .ref (b + a0)), (1, .int x1), (2, .int x2), (3, .int x3)] [] M (some (.int z.1)) z.2 := by
  intro n
  induction n with
  | zero =>
    intro a0 x1 x2 x3 M z ha0 hf
    cases hf
  | succ n ih =>
    intro a0 x1 x2 x3 M z ha0 hf
    rw [f_X0_missingMarksOf_b4] at hf
    refine V_iload_n (Y := m_X0_missingMarksOf) (pc := 4) 3 dX0_missingMarksOf_4 rfl ?_
    refine V_aload_n (Y := m_X0_missingMarksOf) (pc := 5) 0 dX0_missingMarksOf_5 rfl ?_
    refine V_gi (Y := m_X0_missingMarksOf) (pc := 6) 9 kX0 ha0 (by decide +kernel) rfl tw_350 dX0_missingMarksOf_6 ?_
    refine V_icmp_ge (Y := m_X0_missingMarksOf) (pc := 9) (tgt := 40) dX0_missingMarksOf_9 (by decide +kernel) hf (fun hf => ?_) (fun hf => ?_)
    · refine V_iload_n (Y := m_X0_missingMarksOf) (pc := 40) 2 dX0_missingMarksOf_40 rfl ?_
      obtain rfl := Option.some.inj hf
      exact V_iret (Y := m_X0_missingMarksOf) rfl dX0_missingMarksOf_41
    · refine V_iload_n (Y := m_X0_missingMarksOf) (pc := 12) 2 dX0_missingMarksOf_12 rfl ?_
      refine V_aload_n (Y := m_X0_missingMarksOf) (pc := 13) 0 dX0_missingMarksOf_13 rfl ?_
      refine V_aload_n (Y := m_X0_missingMarksOf) (pc := 14) 0 dX0_missingMarksOf_14 rfl ?_
      refine V_gr (Y := m_X0_missingMarksOf) (pc := 15) 0 kX0 ha0 (by decide +kernel) rfl tw_329 dX0_missingMarksOf_15 ?_
      refine V_iload_n (Y := m_X0_missingMarksOf) (pc := 18) 3 dX0_missingMarksOf_18 rfl ?_
      obtain ⟨hi1, hf⟩ := g_if hf
      refine V_aald (Y := m_X0_missingMarksOf) (pc := 19) 1 rfl (wtC.1 _ _ ha0 0 _ rfl) hi1 dX0_missingMarksOf_19 ?_
      refine V_iload_n (Y := m_X0_missingMarksOf) (pc := 20) 1 dX0_missingMarksOf_20 rfl ?_
      obtain ⟨q2, hq2, hf⟩ := g_bind hf
      refine V_cVi (Y := m_X0_missingMarksOf) (pc := 21) (As := [.ref (b + (rfC (rfC a0 0) (ix x3))), .int x1]) yf_X0_isToBeMissed kX0 ha0 (by decide +kernel) (ok_X0_isToBeMissed a0 (rfC (rfC a0 0) (ix x3)) x1 M _ ha0 (wtC.2 _ _ _ (wtC.1 _ _ ha0 0 _ rfl) _ (ixb_lt hi1)) hq2) tw_931 tw_932 tw_930 rfl rfl (Nat.le_of_ble_eq_true rfl) dX0_missingMarksOf_21 ?_
      refine V_if_eq (Y := m_X0_missingMarksOf) (pc := 24) (tgt := 31) dX0_missingMarksOf_24 (by decide +kernel) hf (fun hf => ?_) (fun hf => ?_)
      · refine V_iconst (Y := m_X0_missingMarksOf) (pc := 31) (x := (0 : Int32)) dX0_missingMarksOf_31 (by decide +kernel) ?_
        exact V_sub [0, 1, 3] rfl (ok_X0_missingMarksOf_b32 (f_X0_missingMarksOf_b4  n) ih a0 x1 x3 (0 : Int32) x2 q2.2 z ha0 hf)
      · refine V_iconst (Y := m_X0_missingMarksOf) (pc := 27) (x := (1 : Int32)) dX0_missingMarksOf_27 (by decide +kernel) ?_
        refine V_goto (Y := m_X0_missingMarksOf) (pc := 28) (tgt := 32) dX0_missingMarksOf_28 (by decide +kernel) ?_
        exact V_sub [0, 1, 3] rfl (ok_X0_missingMarksOf_b32 (f_X0_missingMarksOf_b4  n) ih a0 x1 x3 (1 : Int32) x2 q2.2 z ha0 hf)
def f_X0_missingMarksOf_b0  (a0 : Nat) (x1 : Int32) (M : Mem) : Option (Int32 × Mem) :=
  f_X0_missingMarksOf_b4  FU a0 x1 (0 : Int32) (0 : Int32) M
set_option maxRecDepth 20000 in
set_option maxHeartbeats 4000000 in
theorem ok_X0_missingMarksOf_b0 {l : Launch} {g : Gam} {b : Nat}   (a0 : Nat) (x1 : Int32) (M : Mem) (z : Int32 × Mem) (ha0 : shC[a0]? = some (1, 0)) (hf : f_X0_missingMarksOf_b0 a0 x1 M = some z) : V l g (wC b) m_X0_missingMarksOf 0 [(0, .ref (b + a0)), (1, .int x1)] [] M (some (.int z.1)) z.2 := by
  unfold f_X0_missingMarksOf_b0 at hf
  refine V_iconst (Y := m_X0_missingMarksOf) (pc := 0) (x := (0 : Int32)) dX0_missingMarksOf_0 (by decide +kernel) ?_
  refine V_istore_n (Y := m_X0_missingMarksOf) (pc := 1) [(2, .int (0 : Int32)), (0, .ref (b + a0)), (1, .int x1)] dX0_missingMarksOf_1 (by decide +kernel) rfl ?_
  refine V_iconst (Y := m_X0_missingMarksOf) (pc := 2) (x := (0 : Int32)) dX0_missingMarksOf_2 (by decide +kernel) ?_
  refine V_istore_n (Y := m_X0_missingMarksOf) (pc := 3) [(3, .int (0 : Int32)), (2, .int (0 : Int32)), (0, .ref (b + a0)), (1, .int x1)] dX0_missingMarksOf_3 (by decide +kernel) rfl ?_
  exact V_sub [2, 3, 1, 0] rfl (ok_X0_missingMarksOf_b4  FU a0 x1 (0 : Int32) (0 : Int32) M z ha0 hf)
def f_X0_missingMarksOf (a0 : Nat) (x1 : Int32) (M : Mem) : Option (Int32 × Mem) := f_X0_missingMarksOf_b0 a0 x1 M
set_option maxRecDepth 20000 in
set_option maxHeartbeats 4000000 in
theorem ok_X0_missingMarksOf {l : Launch} {g : Gam} {b : Nat} : ∀ (a0 : Nat) (x1 : Int32) (M : Mem) (z : Int32 × Mem), shC[a0]? = some (1, 0) → f_X0_missingMarksOf a0 x1 M = some z → Cn l g (wC b) m_X0_missingMarksOf [.ref (b + a0), .int x1] M (some (.int z.1)) z.2 := fun a0 x1 M z ha0 hf => Cn_of (by decide +kernel) (Nat.le_of_ble_eq_true rfl) (V_sub [0, 1] rfl (ok_X0_missingMarksOf_b0 a0 x1 M z ha0 hf))

abbrev m_X9_drawn : Mth := (yX9_drawn, cX9_drawn, 1, some .int, 1)
theorem yf_X9_drawn : YF m_X9_drawn 1 := ⟨tw_958, tw_65, by decide +kernel, by decide +kernel⟩
def f_X9_drawn_b0  (x0 : Int32) (M : Mem) : Option (Int32 × Mem) :=
  some (((x0 * (1103515245 : Int32)) + (12345 : Int32)), M)
set_option maxRecDepth 20000 in
set_option maxHeartbeats 4000000 in
theorem ok_X9_drawn_b0 {l : Launch} {g : Gam} {b : Nat}   (x0 : Int32) (M : Mem) (z : Int32 × Mem)  (hf : f_X9_drawn_b0 x0 M = some z) : V l g (wC b) m_X9_drawn 0 [(0, .int x0)] [] M (some (.int z.1)) z.2 := by
  unfold f_X9_drawn_b0 at hf
  refine V_iload_n (Y := m_X9_drawn) (pc := 0) 0 dX9_drawn_0 rfl ?_
  refine V_ldcw (Y := m_X9_drawn) (pc := 1) (x := (1103515245 : Int32)) dX9_drawn_1 tw_959 ?_
  refine V_imul (Y := m_X9_drawn) (pc := 4) dX9_drawn_4 ?_
  refine V_sipush (Y := m_X9_drawn) (pc := 5) (x := (12345 : Int32)) dX9_drawn_5 (by decide +kernel) ?_
  refine V_iadd (Y := m_X9_drawn) (pc := 8) dX9_drawn_8 ?_
  obtain rfl := Option.some.inj hf
  exact V_iret (Y := m_X9_drawn) rfl dX9_drawn_9
def f_X9_drawn (x0 : Int32) (M : Mem) : Option (Int32 × Mem) := f_X9_drawn_b0 x0 M
set_option maxRecDepth 20000 in
set_option maxHeartbeats 4000000 in
theorem ok_X9_drawn {l : Launch} {g : Gam} {b : Nat} : ∀ (x0 : Int32) (M : Mem) (z : Int32 × Mem), f_X9_drawn x0 M = some z → Cn l g (wC b) m_X9_drawn [.int x0] M (some (.int z.1)) z.2 := fun x0 M z  hf => Cn_of (by decide +kernel) (Nat.le_of_ble_eq_true rfl) (V_sub [0] rfl (ok_X9_drawn_b0 x0 M z  hf))

abbrev m_X9_sight : Mth := (yX9_sight, cX9_sight, 3, some .int, 1)
theorem yf_X9_sight : YF m_X9_sight 3 := ⟨tw_962, tw_65, by decide +kernel, by decide +kernel⟩
def f_X9_sight_b0  (x0 : Int32) (x1 : Int32) (x2 : Int32) (M : Mem) : Option (Int32 × Mem) :=
  if (((2 : Int32) * x2) + (1 : Int32)) = 0 then none else
  some (((x1 - x2) + (irem (iushr x0 (8 : Int32)) (((2 : Int32) * x2) + (1 : Int32)))), M)
set_option maxRecDepth 20000 in
set_option maxHeartbeats 4000000 in
theorem ok_X9_sight_b0 {l : Launch} {g : Gam} {b : Nat}   (x0 : Int32) (x1 : Int32) (x2 : Int32) (M : Mem) (z : Int32 × Mem)  (hf : f_X9_sight_b0 x0 x1 x2 M = some z) : V l g (wC b) m_X9_sight 0 [(0, .int x0), (1, .int x1), (2, .int x2)] [] M (some (.int z.1)) z.2 := by
  unfold f_X9_sight_b0 at hf
  refine V_iload_n (Y := m_X9_sight) (pc := 0) 1 dX9_sight_0 rfl ?_
  refine V_iload_n (Y := m_X9_sight) (pc := 1) 2 dX9_sight_1 rfl ?_
  refine V_isub (Y := m_X9_sight) (pc := 2) dX9_sight_2 ?_
  refine V_iload_n (Y := m_X9_sight) (pc := 3) 0 dX9_sight_3 rfl ?_
  refine V_bipush (Y := m_X9_sight) (pc := 4) (x := (8 : Int32)) dX9_sight_4 (by decide +kernel) ?_
  refine V_iushr (Y := m_X9_sight) (pc := 6) dX9_sight_6 ?_
  refine V_iconst (Y := m_X9_sight) (pc := 7) (x := (2 : Int32)) dX9_sight_7 (by decide +kernel) ?_
  refine V_iload_n (Y := m_X9_sight) (pc := 8) 2 dX9_sight_8 rfl ?_
  refine V_imul (Y := m_X9_sight) (pc := 9) dX9_sight_9 ?_
  refine V_iconst (Y := m_X9_sight) (pc := 10) (x := (1 : Int32)) dX9_sight_10 (by decide +kernel) ?_
  refine V_iadd (Y := m_X9_sight) (pc := 11) dX9_sight_11 ?_
  obtain ⟨hc1, hf⟩ := g_ifn hf
  refine V_irem (Y := m_X9_sight) (pc := 12) dX9_sight_12 hc1 ?_
  refine V_iadd (Y := m_X9_sight) (pc := 13) dX9_sight_13 ?_
  obtain rfl := Option.some.inj hf
  exact V_iret (Y := m_X9_sight) rfl dX9_sight_14
def f_X9_sight (x0 : Int32) (x1 : Int32) (x2 : Int32) (M : Mem) : Option (Int32 × Mem) := f_X9_sight_b0 x0 x1 x2 M
set_option maxRecDepth 20000 in
set_option maxHeartbeats 4000000 in
theorem ok_X9_sight {l : Launch} {g : Gam} {b : Nat} : ∀ (x0 : Int32) (x1 : Int32) (x2 : Int32) (M : Mem) (z : Int32 × Mem), f_X9_sight x0 x1 x2 M = some z → Cn l g (wC b) m_X9_sight [.int x0, .int x1, .int x2] M (some (.int z.1)) z.2 := fun x0 x1 x2 M z  hf => Cn_of (by decide +kernel) (Nat.le_of_ble_eq_true rfl) (V_sub [0, 1, 2] rfl (ok_X9_sight_b0 x0 x1 x2 M z  hf))

abbrev m_X0_sailsWithin : Mth := (yX0_sailsWithin, cX0_sailsWithin, 5, some .boolean, 2)
theorem yf_X0_sailsWithin : YF m_X0_sailsWithin 2 := ⟨tw_955, tw_71, by decide +kernel, by decide +kernel⟩
def f_X0_sailsWithin_b73 (k5 : Nat → Int32 → Int32 → Int32 → Int32 → Mem → Option (Int32 × Mem)) (a0 : Nat) (x1 : Int32) (x2 : Int32) (x3 : Int32) (x4 : Int32) (M : Mem) : Option (Int32 × Mem) :=
  k5 a0 x1 x2 x3 (x4 + (1 : Int32)) M
set_option maxRecDepth 20000 in
set_option maxHeartbeats 4000000 in
theorem ok_X0_sailsWithin_b73 {l : Launch} {g : Gam} {b : Nat} (k5 : Nat → Int32 → Int32 → Int32 → Int32 → Mem → Option (Int32 × Mem)) (hk5 : ∀ (a0 : Nat) (x1 : Int32) (x2 : Int32) (x3 : Int32) (x4 : Int32) (M : Mem) (z : Int32 × Mem), shC[a0]? = some (1, 0) → k5 a0 x1 x2 x3 x4 M = some z → V l g (wC b) m_X0_sailsWithin 5 [(0, .ref (b + a0)), (1, .int x1), (2, .int x2), (3, .int x3), (4, .int x4)] [] M (some (.int z.1)) z.2) (a0 : Nat) (x1 : Int32) (x2 : Int32) (x3 : Int32) (x4 : Int32) (M : Mem) (z : Int32 × Mem) (ha0 : shC[a0]? = some (1, 0)) (hf : f_X0_sailsWithin_b73 k5 a0 x1 x2 x3 x4 M = some z) : V l g (wC b) m_X0_sailsWithin 73 [(0, .ref (b + a0)), (1, .int x1), (2, .int x2), (3, .int x3), (4, .int x4)] [] M (some (.int z.1)) z.2 := by
  unfold f_X0_sailsWithin_b73 at hf
  refine V_iinc (Y := m_X0_sailsWithin) (pc := 73) (y := (x4 + (1 : Int32))) 4 [(4, .int (x4 + (1 : Int32))), (0, .ref (b + a0)), (1, .int x1), (2, .int x2), (3, .int x3)] dX0_sailsWithin_73 rfl rfl (by decide +kernel) rfl ?_
  refine V_goto (Y := m_X0_sailsWithin) (pc := 76) (tgt := 5) dX0_sailsWithin_76 (by decide +kernel) ?_
  exact V_sub [1, 2, 3, 4, 0] rfl (hk5 a0 x1 x2 x3 (x4 + (1 : Int32)) M z ha0 hf)
def f_X0_sailsWithin_b71 (k5 : Nat → Int32 → Int32 → Int32 → Int32 → Mem → Option (Int32 × Mem)) (a0 : Nat) (x1 : Int32) (x2 : Int32) (x4 : Int32) (s0 : Int32) (s1 : Int32) (M : Mem) : Option (Int32 × Mem) :=
  f_X0_sailsWithin_b73 k5 a0 x1 x2 (s1 &&& s0) x4 M
set_option maxRecDepth 20000 in
set_option maxHeartbeats 4000000 in
theorem ok_X0_sailsWithin_b71 {l : Launch} {g : Gam} {b : Nat} (k5 : Nat → Int32 → Int32 → Int32 → Int32 → Mem → Option (Int32 × Mem)) (hk5 : ∀ (a0 : Nat) (x1 : Int32) (x2 : Int32) (x3 : Int32) (x4 : Int32) (M : Mem) (z : Int32 × Mem), shC[a0]? = some (1, 0) → k5 a0 x1 x2 x3 x4 M = some z → V l g (wC b) m_X0_sailsWithin 5 [(0, .ref (b + a0)), (1, .int x1), (2, .int x2), (3, .int x3), (4, .int x4)] [] M (some (.int z.1)) z.2) (a0 : Nat) (x1 : Int32) (x2 : Int32) (x4 : Int32) (s0 : Int32) (s1 : Int32) (M : Mem) (z : Int32 × Mem) (ha0 : shC[a0]? = some (1, 0)) (hf : f_X0_sailsWithin_b71 k5 a0 x1 x2 x4 s0 s1 M = some z) : V l g (wC b) m_X0_sailsWithin 71 [(0, .ref (b + a0)), (1, .int x1), (2, .int x2), (4, .int x4)] [.int s0, .int s1] M (some (.int z.1)) z.2 := by
  unfold f_X0_sailsWithin_b71 at hf
  refine V_iand (Y := m_X0_sailsWithin) (pc := 71) dX0_sailsWithin_71 ?_
  refine V_istore_n (Y := m_X0_sailsWithin) (pc := 72) [(3, .int (s1 &&& s0)), (0, .ref (b + a0)), (1, .int x1), (2, .int x2), (4, .int x4)] dX0_sailsWithin_72 (by decide +kernel) rfl ?_
  exact V_sub [1, 2, 3, 0, 4] rfl (ok_X0_sailsWithin_b73 k5 hk5 a0 x1 x2 (s1 &&& s0) x4 M z ha0 hf)
def f_X0_sailsWithin_b5  : Nat → Nat → Int32 → Int32 → Int32 → Int32 → Mem → Option (Int32 × Mem)
  | 0, _, _, _, _, _, _ => none
  | n + 1, a0, x1, x2, x3, x4, M =>
    if (9 : Int32) ≤ x4 then
      if z01 x3 = true then some (x3, M) else none
    else
      if ixb x4 9 = true then
      if (M (rfC a0 8) (ix x4)) = (-1000000005 : Int32) then
        f_X0_sailsWithin_b73 (f_X0_sailsWithin_b5  n) a0 x1 x2 x3 x4 M
      else
        (f_X9_drawn (M a0 12) M).bind fun q3 =>
        if ixb x4 9 = true then
        (f_X9_sight ((mset q3.2 a0 12 q3.1) a0 12) ((mset q3.2 a0 12 q3.1) (rfC a0 8) (ix x4)) x1 (mset q3.2 a0 12 q3.1)).bind fun q5 =>
        if ixb x4 9 = true then
        if x2 < (iabs (q5.1 - (q5.2 (rfC a0 8) (ix x4)))) then
          f_X0_sailsWithin_b71 (f_X0_sailsWithin_b5  n) a0 x1 x2 x4 (0 : Int32) x3 q5.2
        else
          f_X0_sailsWithin_b71 (f_X0_sailsWithin_b5  n) a0 x1 x2 x4 (1 : Int32) x3 q5.2
        else none
        else none
      else none
set_option maxRecDepth 20000 in
set_option maxHeartbeats 4000000 in
theorem ok_X0_sailsWithin_b5 {l : Launch} {g : Gam} {b : Nat}   : ∀ (n : Nat) (a0 : Nat) (x1 : Int32) (x2 : Int32) (x3 : Int32) (x4 : Int32) (M : Mem) (z : Int32 × Mem), (ha0 : shC[a0]? = some (1, 0)) → f_X0_sailsWithin_b5  n a0 x1 x2 x3 x4 M = some z → V l g (wC b) m_X0_sailsWithin 5 [(0, .ref (b + a0)), (1, .int x1), (2, .int x2), (3, .int x3), (4, .int x4)] [] M (some (.int z.1)) z.2 := by
  intro n
  induction n with
  | zero =>
    intro a0 x1 x2 x3 x4 M z ha0 hf
    cases hf
  | succ n ih =>
    intro a0 x1 x2 x3 x4 M z ha0 hf
    rw [f_X0_sailsWithin_b5] at hf
    refine V_iload (Y := m_X0_sailsWithin) (pc := 5) 4 dX0_sailsWithin_5 rfl ?_
    refine V_bipush (Y := m_X0_sailsWithin) (pc := 7) (x := (9 : Int32)) dX0_sailsWithin_7 (by decide +kernel) ?_
    refine V_icmp_ge (Y := m_X0_sailsWithin) (pc := 9) (tgt := 79) dX0_sailsWithin_9 (by decide +kernel) hf (fun hf => ?_) (fun hf => ?_)
    · refine V_iload_n (Y := m_X0_sailsWithin) (pc := 79) 3 dX0_sailsWithin_79 rfl ?_
      obtain ⟨hz1, hf⟩ := g_if hf
      obtain rfl := Option.some.inj hf
      exact V_zret (Y := m_X0_sailsWithin) hz1 rfl dX0_sailsWithin_80
    · refine V_aload_n (Y := m_X0_sailsWithin) (pc := 12) 0 dX0_sailsWithin_12 rfl ?_
      refine V_gr (Y := m_X0_sailsWithin) (pc := 13) 8 kX0 ha0 (by decide +kernel) rfl tw_348 dX0_sailsWithin_13 ?_
      refine V_iload (Y := m_X0_sailsWithin) (pc := 16) 4 dX0_sailsWithin_16 rfl ?_
      obtain ⟨hi2, hf⟩ := g_if hf
      refine V_iald (Y := m_X0_sailsWithin) (pc := 18) (wtC.1 _ _ ha0 8 _ rfl) hi2 dX0_sailsWithin_18 ?_
      refine V_ldc (Y := m_X0_sailsWithin) (pc := 19) (x := (-1000000005 : Int32)) dX0_sailsWithin_19 tw_328 ?_
      refine V_icmp_eq (Y := m_X0_sailsWithin) (pc := 21) (tgt := 73) dX0_sailsWithin_21 (by decide +kernel) hf (fun hf => ?_) (fun hf => ?_)
      · exact V_sub [0, 1, 2, 3, 4] rfl (ok_X0_sailsWithin_b73 (f_X0_sailsWithin_b5  n) ih a0 x1 x2 x3 x4 M z ha0 hf)
      · refine V_aload_n (Y := m_X0_sailsWithin) (pc := 24) 0 dX0_sailsWithin_24 rfl ?_
        refine V_aload_n (Y := m_X0_sailsWithin) (pc := 25) 0 dX0_sailsWithin_25 rfl ?_
        refine V_gi (Y := m_X0_sailsWithin) (pc := 26) 12 kX0 ha0 (by decide +kernel) rfl tw_358 dX0_sailsWithin_26 ?_
        obtain ⟨q3, hq3, hf⟩ := g_bind hf
        refine V_cSNi (Y := m_X0_sailsWithin) (pc := 29) (As := [.int (M a0 12)]) yf_X9_drawn (by decide +kernel) (ok_X9_drawn (M a0 12) M _  hq3) tw_957 nw_956 rfl rfl (Nat.le_of_ble_eq_true rfl) dX0_sailsWithin_29 ?_
        refine V_pi (Y := m_X0_sailsWithin) (pc := 32) 12 kX0 ha0 (by decide +kernel) rfl rfl rfl tw_358 dX0_sailsWithin_32 ?_
        refine V_iload_n (Y := m_X0_sailsWithin) (pc := 35) 3 dX0_sailsWithin_35 rfl ?_
        refine V_aload_n (Y := m_X0_sailsWithin) (pc := 36) 0 dX0_sailsWithin_36 rfl ?_
        refine V_gi (Y := m_X0_sailsWithin) (pc := 37) 12 kX0 ha0 (by decide +kernel) rfl tw_358 dX0_sailsWithin_37 ?_
        refine V_aload_n (Y := m_X0_sailsWithin) (pc := 40) 0 dX0_sailsWithin_40 rfl ?_
        refine V_gr (Y := m_X0_sailsWithin) (pc := 41) 8 kX0 ha0 (by decide +kernel) rfl tw_348 dX0_sailsWithin_41 ?_
        refine V_iload (Y := m_X0_sailsWithin) (pc := 44) 4 dX0_sailsWithin_44 rfl ?_
        obtain ⟨hi4, hf⟩ := g_if hf
        refine V_iald (Y := m_X0_sailsWithin) (pc := 46) (wtC.1 _ _ ha0 8 _ rfl) hi4 dX0_sailsWithin_46 ?_
        refine V_iload_n (Y := m_X0_sailsWithin) (pc := 47) 1 dX0_sailsWithin_47 rfl ?_
        obtain ⟨q5, hq5, hf⟩ := g_bind hf
        refine V_cSNi (Y := m_X0_sailsWithin) (pc := 48) (As := [.int ((mset q3.2 a0 12 q3.1) a0 12), .int ((mset q3.2 a0 12 q3.1) (rfC a0 8) (ix x4)), .int x1]) yf_X9_sight (by decide +kernel) (ok_X9_sight ((mset q3.2 a0 12 q3.1) a0 12) ((mset q3.2 a0 12 q3.1) (rfC a0 8) (ix x4)) x1 (mset q3.2 a0 12 q3.1) _  hq5) tw_961 nw_960 rfl rfl (Nat.le_of_ble_eq_true rfl) dX0_sailsWithin_48 ?_
        refine V_aload_n (Y := m_X0_sailsWithin) (pc := 51) 0 dX0_sailsWithin_51 rfl ?_
        refine V_gr (Y := m_X0_sailsWithin) (pc := 52) 8 kX0 ha0 (by decide +kernel) rfl tw_348 dX0_sailsWithin_52 ?_
        refine V_iload (Y := m_X0_sailsWithin) (pc := 55) 4 dX0_sailsWithin_55 rfl ?_
        obtain ⟨hi6, hf⟩ := g_if hf
        refine V_iald (Y := m_X0_sailsWithin) (pc := 57) (wtC.1 _ _ ha0 8 _ rfl) hi6 dX0_sailsWithin_57 ?_
        refine V_isub (Y := m_X0_sailsWithin) (pc := 58) dX0_sailsWithin_58 ?_
        refine V_mabs (Y := m_X0_sailsWithin) (pc := 59) (by decide +kernel) j_mabs tw_935 (Nat.le_of_ble_eq_true rfl) dX0_sailsWithin_59 ?_
        refine V_iload_n (Y := m_X0_sailsWithin) (pc := 62) 2 dX0_sailsWithin_62 rfl ?_
        refine V_icmp_gt (Y := m_X0_sailsWithin) (pc := 63) (tgt := 70) dX0_sailsWithin_63 (by decide +kernel) hf (fun hf => ?_) (fun hf => ?_)
        · refine V_iconst (Y := m_X0_sailsWithin) (pc := 70) (x := (0 : Int32)) dX0_sailsWithin_70 (by decide +kernel) ?_
          exact V_sub [0, 1, 2, 4] rfl (ok_X0_sailsWithin_b71 (f_X0_sailsWithin_b5  n) ih a0 x1 x2 x4 (0 : Int32) x3 q5.2 z ha0 hf)
        · refine V_iconst (Y := m_X0_sailsWithin) (pc := 66) (x := (1 : Int32)) dX0_sailsWithin_66 (by decide +kernel) ?_
          refine V_goto (Y := m_X0_sailsWithin) (pc := 67) (tgt := 71) dX0_sailsWithin_67 (by decide +kernel) ?_
          exact V_sub [0, 1, 2, 4] rfl (ok_X0_sailsWithin_b71 (f_X0_sailsWithin_b5  n) ih a0 x1 x2 x4 (1 : Int32) x3 q5.2 z ha0 hf)
def f_X0_sailsWithin_b0  (a0 : Nat) (x1 : Int32) (x2 : Int32) (M : Mem) : Option (Int32 × Mem) :=
  f_X0_sailsWithin_b5  FU a0 x1 x2 (1 : Int32) (0 : Int32) M
set_option maxRecDepth 20000 in
set_option maxHeartbeats 4000000 in
theorem ok_X0_sailsWithin_b0 {l : Launch} {g : Gam} {b : Nat}   (a0 : Nat) (x1 : Int32) (x2 : Int32) (M : Mem) (z : Int32 × Mem) (ha0 : shC[a0]? = some (1, 0)) (hf : f_X0_sailsWithin_b0 a0 x1 x2 M = some z) : V l g (wC b) m_X0_sailsWithin 0 [(0, .ref (b + a0)), (1, .int x1), (2, .int x2)] [] M (some (.int z.1)) z.2 := by
  unfold f_X0_sailsWithin_b0 at hf
  refine V_iconst (Y := m_X0_sailsWithin) (pc := 0) (x := (1 : Int32)) dX0_sailsWithin_0 (by decide +kernel) ?_
  refine V_istore_n (Y := m_X0_sailsWithin) (pc := 1) [(3, .int (1 : Int32)), (0, .ref (b + a0)), (1, .int x1), (2, .int x2)] dX0_sailsWithin_1 (by decide +kernel) rfl ?_
  refine V_iconst (Y := m_X0_sailsWithin) (pc := 2) (x := (0 : Int32)) dX0_sailsWithin_2 (by decide +kernel) ?_
  refine V_istore (Y := m_X0_sailsWithin) (pc := 3) [(4, .int (0 : Int32)), (3, .int (1 : Int32)), (0, .ref (b + a0)), (1, .int x1), (2, .int x2)] dX0_sailsWithin_3 (by decide +kernel) rfl ?_
  exact V_sub [2, 3, 4, 1, 0] rfl (ok_X0_sailsWithin_b5  FU a0 x1 x2 (1 : Int32) (0 : Int32) M z ha0 hf)
def f_X0_sailsWithin (a0 : Nat) (x1 : Int32) (x2 : Int32) (M : Mem) : Option (Int32 × Mem) := f_X0_sailsWithin_b0 a0 x1 x2 M
set_option maxRecDepth 20000 in
set_option maxHeartbeats 4000000 in
theorem ok_X0_sailsWithin {l : Launch} {g : Gam} {b : Nat} : ∀ (a0 : Nat) (x1 : Int32) (x2 : Int32) (M : Mem) (z : Int32 × Mem), shC[a0]? = some (1, 0) → f_X0_sailsWithin a0 x1 x2 M = some z → Cn l g (wC b) m_X0_sailsWithin [.ref (b + a0), .int x1, .int x2] M (some (.int z.1)) z.2 := fun a0 x1 x2 M z ha0 hf => Cn_of (by decide +kernel) (Nat.le_of_ble_eq_true rfl) (V_sub [0, 1, 2] rfl (ok_X0_sailsWithin_b0 a0 x1 x2 M z ha0 hf))

abbrev m_X0_rightSights : Mth := (yX0_rightSights, cX0_rightSights, 9, some .int, 2)
theorem yf_X0_rightSights : YF m_X0_rightSights 4 := ⟨tw_1038, tw_71, by decide +kernel, by decide +kernel⟩
def f_X0_rightSights_b86 (k12 : Nat → Nat → Int32 → Int32 → Int32 → Int32 → Int32 → Int32 → Mem → Option (Int32 × Mem)) (a0 : Nat) (a1 : Nat) (x2 : Int32) (x3 : Int32) (x4 : Int32) (x5 : Int32) (x6 : Int32) (x7 : Int32) (M : Mem) : Option (Int32 × Mem) :=
  k12 a0 a1 x2 x3 x4 x5 x6 (x7 + (1 : Int32)) M
set_option maxRecDepth 20000 in
set_option maxHeartbeats 4000000 in
theorem ok_X0_rightSights_b86 {l : Launch} {g : Gam} {b : Nat} (k12 : Nat → Nat → Int32 → Int32 → Int32 → Int32 → Int32 → Int32 → Mem → Option (Int32 × Mem)) (hk12 : ∀ (a0 : Nat) (a1 : Nat) (x2 : Int32) (x3 : Int32) (x4 : Int32) (x5 : Int32) (x6 : Int32) (x7 : Int32) (M : Mem) (z : Int32 × Mem), shC[a0]? = some (1, 0) → shC[a1]? = some (0, 60) → k12 a0 a1 x2 x3 x4 x5 x6 x7 M = some z → V l g (wC b) m_X0_rightSights 12 [(0, .ref (b + a0)), (1, .ref (b + a1)), (2, .int x2), (3, .int x3), (4, .int x4), (5, .int x5), (6, .int x6), (7, .int x7)] [] M (some (.int z.1)) z.2) (a0 : Nat) (a1 : Nat) (x2 : Int32) (x3 : Int32) (x4 : Int32) (x5 : Int32) (x6 : Int32) (x7 : Int32) (M : Mem) (z : Int32 × Mem) (ha0 : shC[a0]? = some (1, 0)) (ha1 : shC[a1]? = some (0, 60)) (hf : f_X0_rightSights_b86 k12 a0 a1 x2 x3 x4 x5 x6 x7 M = some z) : V l g (wC b) m_X0_rightSights 86 [(0, .ref (b + a0)), (1, .ref (b + a1)), (2, .int x2), (3, .int x3), (4, .int x4), (5, .int x5), (6, .int x6), (7, .int x7)] [] M (some (.int z.1)) z.2 := by
  unfold f_X0_rightSights_b86 at hf
  refine V_iinc (Y := m_X0_rightSights) (pc := 86) (y := (x7 + (1 : Int32))) 7 [(7, .int (x7 + (1 : Int32))), (0, .ref (b + a0)), (1, .ref (b + a1)), (2, .int x2), (3, .int x3), (4, .int x4), (5, .int x5), (6, .int x6)] dX0_rightSights_86 rfl rfl (by decide +kernel) rfl ?_
  refine V_goto (Y := m_X0_rightSights) (pc := 89) (tgt := 12) dX0_rightSights_89 (by decide +kernel) ?_
  exact V_sub [1, 2, 3, 4, 5, 6, 7, 0] rfl (hk12 a0 a1 x2 x3 x4 x5 x6 (x7 + (1 : Int32)) M z ha0 ha1 hf)
def f_X0_rightSights_b80 (k12 : Nat → Nat → Int32 → Int32 → Int32 → Int32 → Int32 → Int32 → Mem → Option (Int32 × Mem)) (k21 : Nat → Nat → Int32 → Int32 → Int32 → Int32 → Int32 → Int32 → Int32 → Mem → Option (Int32 × Mem)) (a0 : Nat) (a1 : Nat) (x2 : Int32) (x3 : Int32) (x4 : Int32) (x5 : Int32) (x6 : Int32) (x7 : Int32) (x8 : Int32) (M : Mem) : Option (Int32 × Mem) :=
  k21 a0 a1 x2 x3 x4 x5 x6 x7 (x8 + (1 : Int32)) M
set_option maxRecDepth 20000 in
set_option maxHeartbeats 4000000 in
theorem ok_X0_rightSights_b80 {l : Launch} {g : Gam} {b : Nat} (k12 : Nat → Nat → Int32 → Int32 → Int32 → Int32 → Int32 → Int32 → Mem → Option (Int32 × Mem)) (k21 : Nat → Nat → Int32 → Int32 → Int32 → Int32 → Int32 → Int32 → Int32 → Mem → Option (Int32 × Mem)) (hk12 : ∀ (a0 : Nat) (a1 : Nat) (x2 : Int32) (x3 : Int32) (x4 : Int32) (x5 : Int32) (x6 : Int32) (x7 : Int32) (M : Mem) (z : Int32 × Mem), shC[a0]? = some (1, 0) → shC[a1]? = some (0, 60) → k12 a0 a1 x2 x3 x4 x5 x6 x7 M = some z → V l g (wC b) m_X0_rightSights 12 [(0, .ref (b + a0)), (1, .ref (b + a1)), (2, .int x2), (3, .int x3), (4, .int x4), (5, .int x5), (6, .int x6), (7, .int x7)] [] M (some (.int z.1)) z.2) (hk21 : ∀ (a0 : Nat) (a1 : Nat) (x2 : Int32) (x3 : Int32) (x4 : Int32) (x5 : Int32) (x6 : Int32) (x7 : Int32) (x8 : Int32) (M : Mem) (z : Int32 × Mem), shC[a0]? = some (1, 0) → shC[a1]? = some (0, 60) → k21 a0 a1 x2 x3 x4 x5 x6 x7 x8 M = some z → V l g (wC b) m_X0_rightSights 21 [(0, .ref (b + a0)), (1, .ref (b + a1)), (2, .int x2), (3, .int x3), (4, .int x4), (5, .int x5), (6, .int x6), (7, .int x7), (8, .int x8)] [] M (some (.int z.1)) z.2) (a0 : Nat) (a1 : Nat) (x2 : Int32) (x3 : Int32) (x4 : Int32) (x5 : Int32) (x6 : Int32) (x7 : Int32) (x8 : Int32) (M : Mem) (z : Int32 × Mem) (ha0 : shC[a0]? = some (1, 0)) (ha1 : shC[a1]? = some (0, 60)) (hf : f_X0_rightSights_b80 k12 k21 a0 a1 x2 x3 x4 x5 x6 x7 x8 M = some z) : V l g (wC b) m_X0_rightSights 80 [(0, .ref (b + a0)), (1, .ref (b + a1)), (2, .int x2), (3, .int x3), (4, .int x4), (5, .int x5), (6, .int x6), (7, .int x7), (8, .int x8)] [] M (some (.int z.1)) z.2 := by
  unfold f_X0_rightSights_b80 at hf
  refine V_iinc (Y := m_X0_rightSights) (pc := 80) (y := (x8 + (1 : Int32))) 8 [(8, .int (x8 + (1 : Int32))), (0, .ref (b + a0)), (1, .ref (b + a1)), (2, .int x2), (3, .int x3), (4, .int x4), (5, .int x5), (6, .int x6), (7, .int x7)] dX0_rightSights_80 rfl rfl (by decide +kernel) rfl ?_
  refine V_goto (Y := m_X0_rightSights) (pc := 83) (tgt := 21) dX0_rightSights_83 (by decide +kernel) ?_
  exact V_sub [1, 2, 3, 4, 5, 6, 7, 8, 0] rfl (hk21 a0 a1 x2 x3 x4 x5 x6 x7 (x8 + (1 : Int32)) M z ha0 ha1 hf)
def f_X0_rightSights_b21 (k12 : Nat → Nat → Int32 → Int32 → Int32 → Int32 → Int32 → Int32 → Mem → Option (Int32 × Mem)) : Nat → Nat → Nat → Int32 → Int32 → Int32 → Int32 → Int32 → Int32 → Int32 → Mem → Option (Int32 × Mem)
  | 0, _, _, _, _, _, _, _, _, _, _ => none
  | n + 1, a0, a1, x2, x3, x4, x5, x6, x7, x8, M =>
    if (9 : Int32) ≤ x8 then
      f_X0_rightSights_b86 k12 a0 a1 x2 x3 x4 x5 x6 x7 M
    else
      if ixb x8 9 = true then
      if (M (rfC a0 8) (ix x8)) = (-1000000005 : Int32) then
        f_X0_rightSights_b80 k12 (f_X0_rightSights_b21 k12 n) a0 a1 x2 x3 x4 x5 x6 x7 x8 M
      else
        (f_X9_drawn x6 M).bind fun q2 =>
        if x2 ≤ x5 then
          some (x5, q2.2)
        else
          if ixb x5 60 = true then
          if ixb x8 9 = true then
          (f_X9_sight q2.1 (q2.2 (rfC a0 8) (ix x8)) x4 q2.2).bind fun q5 =>
          if (q2.2 a1 (ix x5)) = q5.1 then
            f_X0_rightSights_b80 k12 (f_X0_rightSights_b21 k12 n) a0 a1 x2 x3 x4 (x5 + (1 : Int32)) q2.1 x7 x8 q5.2
          else
            some (x5, q5.2)
          else none
          else none
      else none
set_option maxRecDepth 20000 in
set_option maxHeartbeats 4000000 in
theorem ok_X0_rightSights_b21 {l : Launch} {g : Gam} {b : Nat} (k12 : Nat → Nat → Int32 → Int32 → Int32 → Int32 → Int32 → Int32 → Mem → Option (Int32 × Mem)) (hk12 : ∀ (a0 : Nat) (a1 : Nat) (x2 : Int32) (x3 : Int32) (x4 : Int32) (x5 : Int32) (x6 : Int32) (x7 : Int32) (M : Mem) (z : Int32 × Mem), shC[a0]? = some (1, 0) → shC[a1]? = some (0, 60) → k12 a0 a1 x2 x3 x4 x5 x6 x7 M = some z → V l g (wC b) m_X0_rightSights 12 [(0, .ref (b + a0)), (1, .ref (b + a1)), (2, .int x2), (3, .int x3), (4, .int x4), (5, .int x5), (6, .int x6), (7, .int x7)] [] M (some (.int z.1)) z.2) : ∀ (n : Nat) (a0 : Nat) (a1 : Nat) (x2 : Int32) (x3 : Int32) (x4 : Int32) (x5 : Int32) (x6 : Int32) (x7 : Int32) (x8 : Int32) (M : Mem) (z : Int32 × Mem), (ha0 : shC[a0]? = some (1, 0)) → (ha1 : shC[a1]? = some (0, 60)) → f_X0_rightSights_b21 k12 n a0 a1 x2 x3 x4 x5 x6 x7 x8 M = some z → V l g (wC b) m_X0_rightSights 21 [(0, .ref (b + a0)), (1, .ref (b + a1)), (2, .int x2), (3, .int x3), (4, .int x4), (5, .int x5), (6, .int x6), (7, .int x7), (8, .int x8)] [] M (some (.int z.1)) z.2 := by
  intro n
  induction n with
  | zero =>
    intro a0 a1 x2 x3 x4 x5 x6 x7 x8 M z ha0 ha1 hf
    cases hf
  | succ n ih =>
    intro a0 a1 x2 x3 x4 x5 x6 x7 x8 M z ha0 ha1 hf
    rw [f_X0_rightSights_b21] at hf
    refine V_iload (Y := m_X0_rightSights) (pc := 21) 8 dX0_rightSights_21 rfl ?_
    refine V_bipush (Y := m_X0_rightSights) (pc := 23) (x := (9 : Int32)) dX0_rightSights_23 (by decide +kernel) ?_
    refine V_icmp_ge (Y := m_X0_rightSights) (pc := 25) (tgt := 86) dX0_rightSights_25 (by decide +kernel) hf (fun hf => ?_) (fun hf => ?_)
    · exact V_sub [0, 1, 2, 3, 4, 5, 6, 7] rfl (ok_X0_rightSights_b86 k12 hk12 a0 a1 x2 x3 x4 x5 x6 x7 M z ha0 ha1 hf)
    · refine V_aload_n (Y := m_X0_rightSights) (pc := 28) 0 dX0_rightSights_28 rfl ?_
      refine V_gr (Y := m_X0_rightSights) (pc := 29) 8 kX0 ha0 (by decide +kernel) rfl tw_348 dX0_rightSights_29 ?_
      refine V_iload (Y := m_X0_rightSights) (pc := 32) 8 dX0_rightSights_32 rfl ?_
      obtain ⟨hi1, hf⟩ := g_if hf
      refine V_iald (Y := m_X0_rightSights) (pc := 34) (wtC.1 _ _ ha0 8 _ rfl) hi1 dX0_rightSights_34 ?_
      refine V_ldc (Y := m_X0_rightSights) (pc := 35) (x := (-1000000005 : Int32)) dX0_rightSights_35 tw_328 ?_
      refine V_icmp_eq (Y := m_X0_rightSights) (pc := 37) (tgt := 80) dX0_rightSights_37 (by decide +kernel) hf (fun hf => ?_) (fun hf => ?_)
      · exact V_sub [0, 1, 2, 3, 4, 5, 6, 7, 8] rfl (ok_X0_rightSights_b80 k12 (f_X0_rightSights_b21 k12 n) hk12 ih a0 a1 x2 x3 x4 x5 x6 x7 x8 M z ha0 ha1 hf)
      · refine V_iload (Y := m_X0_rightSights) (pc := 40) 6 dX0_rightSights_40 rfl ?_
        obtain ⟨q2, hq2, hf⟩ := g_bind hf
        refine V_cSNi (Y := m_X0_rightSights) (pc := 42) (As := [.int x6]) yf_X9_drawn (by decide +kernel) (ok_X9_drawn x6 M _  hq2) tw_957 nw_956 rfl rfl (Nat.le_of_ble_eq_true rfl) dX0_rightSights_42 ?_
        refine V_istore (Y := m_X0_rightSights) (pc := 45) [(6, .int q2.1), (0, .ref (b + a0)), (1, .ref (b + a1)), (2, .int x2), (3, .int x3), (4, .int x4), (5, .int x5), (7, .int x7), (8, .int x8)] dX0_rightSights_45 (by decide +kernel) rfl ?_
        refine V_iload (Y := m_X0_rightSights) (pc := 47) 6 dX0_rightSights_47 rfl ?_
        refine V_iload_n (Y := m_X0_rightSights) (pc := 49) 3 dX0_rightSights_49 rfl ?_
        refine V_icmp_ge (Y := m_X0_rightSights) (pc := 50) (tgt := 74) dX0_rightSights_50 (by decide +kernel) hf (fun hf => ?_) (fun hf => ?_)
        · refine V_iload (Y := m_X0_rightSights) (pc := 74) 6 dX0_rightSights_74 rfl ?_
          obtain rfl := Option.some.inj hf
          exact V_iret (Y := m_X0_rightSights) rfl dX0_rightSights_76
        · refine V_aload_n (Y := m_X0_rightSights) (pc := 53) 2 dX0_rightSights_53 rfl ?_
          refine V_iload (Y := m_X0_rightSights) (pc := 54) 6 dX0_rightSights_54 rfl ?_
          obtain ⟨hi3, hf⟩ := g_if hf
          refine V_iald (Y := m_X0_rightSights) (pc := 56) ha1 hi3 dX0_rightSights_56 ?_
          refine V_iload (Y := m_X0_rightSights) (pc := 57) 0 dX0_rightSights_57 rfl ?_
          refine V_aload_n (Y := m_X0_rightSights) (pc := 59) 1 dX0_rightSights_59 rfl ?_
          refine V_gr (Y := m_X0_rightSights) (pc := 60) 8 kX0 ha0 (by decide +kernel) rfl tw_348 dX0_rightSights_60 ?_
          refine V_iload (Y := m_X0_rightSights) (pc := 63) 8 dX0_rightSights_63 rfl ?_
          obtain ⟨hi4, hf⟩ := g_if hf
          refine V_iald (Y := m_X0_rightSights) (pc := 65) (wtC.1 _ _ ha0 8 _ rfl) hi4 dX0_rightSights_65 ?_
          refine V_iload (Y := m_X0_rightSights) (pc := 66) 5 dX0_rightSights_66 rfl ?_
          obtain ⟨q5, hq5, hf⟩ := g_bind hf
          refine V_cSNi (Y := m_X0_rightSights) (pc := 68) (As := [.int q2.1, .int (q2.2 (rfC a0 8) (ix x8)), .int x4]) yf_X9_sight (by decide +kernel) (ok_X9_sight q2.1 (q2.2 (rfC a0 8) (ix x8)) x4 q2.2 _  hq5) tw_961 nw_960 rfl rfl (Nat.le_of_ble_eq_true rfl) dX0_rightSights_68 ?_
          refine V_icmp_eq (Y := m_X0_rightSights) (pc := 71) (tgt := 77) dX0_rightSights_71 (by decide +kernel) hf (fun hf => ?_) (fun hf => ?_)
          · refine V_iinc (Y := m_X0_rightSights) (pc := 77) (y := (x5 + (1 : Int32))) 6 [(5, .int (x5 + (1 : Int32))), (6, .int q2.1), (0, .ref (b + a0)), (1, .ref (b + a1)), (2, .int x2), (3, .int x3), (4, .int x4), (7, .int x7), (8, .int x8)] dX0_rightSights_77 rfl rfl (by decide +kernel) rfl ?_
            exact V_sub [2, 3, 4, 5, 6, 0, 1, 7, 8] rfl (ok_X0_rightSights_b80 k12 (f_X0_rightSights_b21 k12 n) hk12 ih a0 a1 x2 x3 x4 (x5 + (1 : Int32)) q2.1 x7 x8 q5.2 z ha0 ha1 hf)
          · refine V_iload (Y := m_X0_rightSights) (pc := 74) 6 dX0_rightSights_74 rfl ?_
            obtain rfl := Option.some.inj hf
            exact V_iret (Y := m_X0_rightSights) rfl dX0_rightSights_76
def f_X0_rightSights_b12  : Nat → Nat → Nat → Int32 → Int32 → Int32 → Int32 → Int32 → Int32 → Mem → Option (Int32 × Mem)
  | 0, _, _, _, _, _, _, _, _, _ => none
  | n + 1, a0, a1, x2, x3, x4, x5, x6, x7, M =>
    if x3 ≤ x7 then
      some (x5, M)
    else
      f_X0_rightSights_b21 (f_X0_rightSights_b12  n) FU a0 a1 x2 x3 x4 x5 x6 x7 (0 : Int32) M
set_option maxRecDepth 20000 in
set_option maxHeartbeats 4000000 in
theorem ok_X0_rightSights_b12 {l : Launch} {g : Gam} {b : Nat}   : ∀ (n : Nat) (a0 : Nat) (a1 : Nat) (x2 : Int32) (x3 : Int32) (x4 : Int32) (x5 : Int32) (x6 : Int32) (x7 : Int32) (M : Mem) (z : Int32 × Mem), (ha0 : shC[a0]? = some (1, 0)) → (ha1 : shC[a1]? = some (0, 60)) → f_X0_rightSights_b12  n a0 a1 x2 x3 x4 x5 x6 x7 M = some z → V l g (wC b) m_X0_rightSights 12 [(0, .ref (b + a0)), (1, .ref (b + a1)), (2, .int x2), (3, .int x3), (4, .int x4), (5, .int x5), (6, .int x6), (7, .int x7)] [] M (some (.int z.1)) z.2 := by
  intro n
  induction n with
  | zero =>
    intro a0 a1 x2 x3 x4 x5 x6 x7 M z ha0 ha1 hf
    cases hf
  | succ n ih =>
    intro a0 a1 x2 x3 x4 x5 x6 x7 M z ha0 ha1 hf
    rw [f_X0_rightSights_b12] at hf
    refine V_iload (Y := m_X0_rightSights) (pc := 12) 7 dX0_rightSights_12 rfl ?_
    refine V_iload_n (Y := m_X0_rightSights) (pc := 14) 3 dX0_rightSights_14 rfl ?_
    refine V_icmp_ge (Y := m_X0_rightSights) (pc := 15) (tgt := 92) dX0_rightSights_15 (by decide +kernel) hf (fun hf => ?_) (fun hf => ?_)
    · refine V_iload (Y := m_X0_rightSights) (pc := 92) 5 dX0_rightSights_92 rfl ?_
      obtain rfl := Option.some.inj hf
      exact V_iret (Y := m_X0_rightSights) rfl dX0_rightSights_94
    · refine V_iconst (Y := m_X0_rightSights) (pc := 18) (x := (0 : Int32)) dX0_rightSights_18 (by decide +kernel) ?_
      refine V_istore (Y := m_X0_rightSights) (pc := 19) [(8, .int (0 : Int32)), (0, .ref (b + a0)), (1, .ref (b + a1)), (2, .int x2), (3, .int x3), (4, .int x4), (5, .int x5), (6, .int x6), (7, .int x7)] dX0_rightSights_19 (by decide +kernel) rfl ?_
      exact V_sub [1, 2, 3, 4, 5, 6, 7, 8, 0] rfl (ok_X0_rightSights_b21 (f_X0_rightSights_b12  n) ih FU a0 a1 x2 x3 x4 x5 x6 x7 (0 : Int32) M z ha0 ha1 hf)
def f_X0_rightSights_b0  (a0 : Nat) (a1 : Nat) (x2 : Int32) (x3 : Int32) (x4 : Int32) (M : Mem) : Option (Int32 × Mem) :=
  f_X0_rightSights_b12  FU a0 a1 x2 x3 x4 (0 : Int32) (M a0 12) (0 : Int32) M
set_option maxRecDepth 20000 in
set_option maxHeartbeats 4000000 in
theorem ok_X0_rightSights_b0 {l : Launch} {g : Gam} {b : Nat}   (a0 : Nat) (a1 : Nat) (x2 : Int32) (x3 : Int32) (x4 : Int32) (M : Mem) (z : Int32 × Mem) (ha0 : shC[a0]? = some (1, 0)) (ha1 : shC[a1]? = some (0, 60)) (hf : f_X0_rightSights_b0 a0 a1 x2 x3 x4 M = some z) : V l g (wC b) m_X0_rightSights 0 [(0, .ref (b + a0)), (1, .ref (b + a1)), (2, .int x2), (3, .int x3), (4, .int x4)] [] M (some (.int z.1)) z.2 := by
  unfold f_X0_rightSights_b0 at hf
  refine V_iconst (Y := m_X0_rightSights) (pc := 0) (x := (0 : Int32)) dX0_rightSights_0 (by decide +kernel) ?_
  refine V_istore (Y := m_X0_rightSights) (pc := 1) [(5, .int (0 : Int32)), (0, .ref (b + a0)), (1, .ref (b + a1)), (2, .int x2), (3, .int x3), (4, .int x4)] dX0_rightSights_1 (by decide +kernel) rfl ?_
  refine V_aload_n (Y := m_X0_rightSights) (pc := 3) 1 dX0_rightSights_3 rfl ?_
  refine V_gi (Y := m_X0_rightSights) (pc := 4) 12 kX0 ha0 (by decide +kernel) rfl tw_358 dX0_rightSights_4 ?_
  refine V_istore (Y := m_X0_rightSights) (pc := 7) [(6, .int (M a0 12)), (5, .int (0 : Int32)), (0, .ref (b + a0)), (1, .ref (b + a1)), (2, .int x2), (3, .int x3), (4, .int x4)] dX0_rightSights_7 (by decide +kernel) rfl ?_
  refine V_iconst (Y := m_X0_rightSights) (pc := 9) (x := (0 : Int32)) dX0_rightSights_9 (by decide +kernel) ?_
  refine V_istore (Y := m_X0_rightSights) (pc := 10) [(7, .int (0 : Int32)), (6, .int (M a0 12)), (5, .int (0 : Int32)), (0, .ref (b + a0)), (1, .ref (b + a1)), (2, .int x2), (3, .int x3), (4, .int x4)] dX0_rightSights_10 (by decide +kernel) rfl ?_
  exact V_sub [3, 4, 5, 6, 7, 2, 1, 0] rfl (ok_X0_rightSights_b12  FU a0 a1 x2 x3 x4 (0 : Int32) (M a0 12) (0 : Int32) M z ha0 ha1 hf)
def f_X0_rightSights (a0 : Nat) (a1 : Nat) (x2 : Int32) (x3 : Int32) (x4 : Int32) (M : Mem) : Option (Int32 × Mem) := f_X0_rightSights_b0 a0 a1 x2 x3 x4 M
set_option maxRecDepth 20000 in
set_option maxHeartbeats 4000000 in
theorem ok_X0_rightSights {l : Launch} {g : Gam} {b : Nat} : ∀ (a0 : Nat) (a1 : Nat) (x2 : Int32) (x3 : Int32) (x4 : Int32) (M : Mem) (z : Int32 × Mem), shC[a0]? = some (1, 0) → shC[a1]? = some (0, 60) → f_X0_rightSights a0 a1 x2 x3 x4 M = some z → Cn l g (wC b) m_X0_rightSights [.ref (b + a0), .ref (b + a1), .int x2, .int x3, .int x4] M (some (.int z.1)) z.2 := fun a0 a1 x2 x3 x4 M z ha0 ha1 hf => Cn_of (by decide +kernel) (Nat.le_of_ble_eq_true rfl) (V_sub [0, 1, 2, 3, 4] rfl (ok_X0_rightSights_b0 a0 a1 x2 x3 x4 M z ha0 ha1 hf))

abbrev m_X2_span : Mth := (yX2_span, cX2_span, 3, some .int, 1)
theorem yf_X2_span : YF m_X2_span 0 := ⟨tw_543, tw_72, by decide +kernel, by decide +kernel⟩
def f_X2_span_b0  (a0 : Nat) (M : Mem) : Option (Int32 × Mem) :=
  if (M a0 0) = (1 : Int32) then
    some ((((20 : Int32) / (2 : Int32)) + ((M a0 3) / (20 : Int32))), M)
  else
  if (M a0 0) = (2 : Int32) then
    some ((15 : Int32), M)
  else
  if (M a0 0) = (3 : Int32) then
    some (((5 : Int32) + ((M a0 2) / (10 : Int32))), M)
  else
  if (M a0 0) = (4 : Int32) then
    some (((20 : Int32) + (5 : Int32)), M)
  else
  if (M a0 0) = (5 : Int32) then
    some ((((20 : Int32) + (5 : Int32)) + (10 : Int32)), M)
  else
  if (M a0 0) = (6 : Int32) then
    some ((20 : Int32), M)
  else
  if (M a0 0) = (7 : Int32) then
    some ((2 : Int32), M)
  else
  some ((20 : Int32), M)
set_option maxRecDepth 20000 in
set_option maxHeartbeats 4000000 in
theorem ok_X2_span_b0 {l : Launch} {g : Gam} {b : Nat}   (a0 : Nat) (M : Mem) (z : Int32 × Mem) (ha0 : shC[a0]? = some (1, 2)) (hf : f_X2_span_b0 a0 M = some z) : V l g (wC b) m_X2_span 0 [(0, .ref (b + a0))] [] M (some (.int z.1)) z.2 := by
  unfold f_X2_span_b0 at hf
  refine V_bipush (Y := m_X2_span) (pc := 0) (x := (20 : Int32)) dX2_span_0 (by decide +kernel) ?_
  refine V_istore_n (Y := m_X2_span) (pc := 2) [(1, .int (20 : Int32)), (0, .ref (b + a0))] dX2_span_2 (by decide +kernel) rfl ?_
  refine V_iload_n (Y := m_X2_span) (pc := 3) 0 dX2_span_3 rfl ?_
  refine V_iconst (Y := m_X2_span) (pc := 4) (x := (5 : Int32)) dX2_span_4 (by decide +kernel) ?_
  refine V_iadd (Y := m_X2_span) (pc := 5) dX2_span_5 ?_
  refine V_istore_n (Y := m_X2_span) (pc := 6) [(2, .int ((20 : Int32) + (5 : Int32))), (1, .int (20 : Int32)), (0, .ref (b + a0))] dX2_span_6 (by decide +kernel) rfl ?_
  refine V_aload_n (Y := m_X2_span) (pc := 7) 2 dX2_span_7 rfl ?_
  refine V_gi (Y := m_X2_span) (pc := 8) 0 kX2 ha0 (by decide +kernel) rfl tw_282 dX2_span_8 ?_
  by_cases hc1 : (M a0 0) = (1 : Int32)
  · rw [if_pos hc1] at hf
    refine V_tsw (Y := m_X2_span) (pc := 11) (tgt := 52) (1 : Int32) hc1 dX2_span_11 (by decide +kernel) ?_
    refine V_iload_n (Y := m_X2_span) (pc := 52) 1 dX2_span_52 rfl ?_
    refine V_iconst (Y := m_X2_span) (pc := 53) (x := (2 : Int32)) dX2_span_53 (by decide +kernel) ?_
    refine V_idiv (Y := m_X2_span) (pc := 54) dX2_span_54 (by decide +kernel) ?_
    refine V_aload_n (Y := m_X2_span) (pc := 55) 2 dX2_span_55 rfl ?_
    refine V_gi (Y := m_X2_span) (pc := 56) 3 kX2 ha0 (by decide +kernel) rfl tw_296 dX2_span_56 ?_
    refine V_bipush (Y := m_X2_span) (pc := 59) (x := (20 : Int32)) dX2_span_59 (by decide +kernel) ?_
    refine V_idiv (Y := m_X2_span) (pc := 61) dX2_span_61 (by decide +kernel) ?_
    refine V_iadd (Y := m_X2_span) (pc := 62) dX2_span_62 ?_
    obtain rfl := Option.some.inj hf
    exact V_iret (Y := m_X2_span) rfl dX2_span_63
  rw [if_neg hc1] at hf
  by_cases hc2 : (M a0 0) = (2 : Int32)
  · rw [if_pos hc2] at hf
    refine V_tsw (Y := m_X2_span) (pc := 11) (tgt := 64) (2 : Int32) hc2 dX2_span_11 (by decide +kernel) ?_
    refine V_bipush (Y := m_X2_span) (pc := 64) (x := (15 : Int32)) dX2_span_64 (by decide +kernel) ?_
    obtain rfl := Option.some.inj hf
    exact V_iret (Y := m_X2_span) rfl dX2_span_66
  rw [if_neg hc2] at hf
  by_cases hc3 : (M a0 0) = (3 : Int32)
  · rw [if_pos hc3] at hf
    refine V_tsw (Y := m_X2_span) (pc := 11) (tgt := 67) (3 : Int32) hc3 dX2_span_11 (by decide +kernel) ?_
    refine V_iconst (Y := m_X2_span) (pc := 67) (x := (5 : Int32)) dX2_span_67 (by decide +kernel) ?_
    refine V_aload_n (Y := m_X2_span) (pc := 68) 2 dX2_span_68 rfl ?_
    refine V_gi (Y := m_X2_span) (pc := 69) 2 kX2 ha0 (by decide +kernel) rfl tw_291 dX2_span_69 ?_
    refine V_bipush (Y := m_X2_span) (pc := 72) (x := (10 : Int32)) dX2_span_72 (by decide +kernel) ?_
    refine V_idiv (Y := m_X2_span) (pc := 74) dX2_span_74 (by decide +kernel) ?_
    refine V_iadd (Y := m_X2_span) (pc := 75) dX2_span_75 ?_
    obtain rfl := Option.some.inj hf
    exact V_iret (Y := m_X2_span) rfl dX2_span_76
  rw [if_neg hc3] at hf
  by_cases hc4 : (M a0 0) = (4 : Int32)
  · rw [if_pos hc4] at hf
    refine V_tsw (Y := m_X2_span) (pc := 11) (tgt := 77) (4 : Int32) hc4 dX2_span_11 (by decide +kernel) ?_
    refine V_iload_n (Y := m_X2_span) (pc := 77) 0 dX2_span_77 rfl ?_
    obtain rfl := Option.some.inj hf
    exact V_iret (Y := m_X2_span) rfl dX2_span_78
  rw [if_neg hc4] at hf
  by_cases hc5 : (M a0 0) = (5 : Int32)
  · rw [if_pos hc5] at hf
    refine V_tsw (Y := m_X2_span) (pc := 11) (tgt := 79) (5 : Int32) hc5 dX2_span_11 (by decide +kernel) ?_
    refine V_iload_n (Y := m_X2_span) (pc := 79) 0 dX2_span_79 rfl ?_
    refine V_bipush (Y := m_X2_span) (pc := 80) (x := (10 : Int32)) dX2_span_80 (by decide +kernel) ?_
    refine V_iadd (Y := m_X2_span) (pc := 82) dX2_span_82 ?_
    obtain rfl := Option.some.inj hf
    exact V_iret (Y := m_X2_span) rfl dX2_span_83
  rw [if_neg hc5] at hf
  by_cases hc6 : (M a0 0) = (6 : Int32)
  · rw [if_pos hc6] at hf
    refine V_tsw (Y := m_X2_span) (pc := 11) (tgt := 86) (6 : Int32) hc6 dX2_span_11 (by decide +kernel) ?_
    refine V_iload_n (Y := m_X2_span) (pc := 86) 1 dX2_span_86 rfl ?_
    obtain rfl := Option.some.inj hf
    exact V_iret (Y := m_X2_span) rfl dX2_span_87
  rw [if_neg hc6] at hf
  by_cases hc7 : (M a0 0) = (7 : Int32)
  · rw [if_pos hc7] at hf
    refine V_tsw (Y := m_X2_span) (pc := 11) (tgt := 84) (7 : Int32) hc7 dX2_span_11 (by decide +kernel) ?_
    refine V_iconst (Y := m_X2_span) (pc := 84) (x := (2 : Int32)) dX2_span_84 (by decide +kernel) ?_
    obtain rfl := Option.some.inj hf
    exact V_iret (Y := m_X2_span) rfl dX2_span_85
  rw [if_neg hc7] at hf
  refine V_tswO (Y := m_X2_span) (pc := 11) (tgt := 86) [(1 : Int32), (2 : Int32), (3 : Int32), (4 : Int32), (5 : Int32), (6 : Int32), (7 : Int32)] (List.forall_mem_cons.mpr ⟨hc1, (List.forall_mem_cons.mpr ⟨hc2, (List.forall_mem_cons.mpr ⟨hc3, (List.forall_mem_cons.mpr ⟨hc4, (List.forall_mem_cons.mpr ⟨hc5, (List.forall_mem_cons.mpr ⟨hc6, (List.forall_mem_cons.mpr ⟨hc7, (fun _ h => absurd h List.not_mem_nil)⟩)⟩)⟩)⟩)⟩)⟩)⟩) dX2_span_11 (by decide +kernel) (by decide +kernel) ?_
  refine V_iload_n (Y := m_X2_span) (pc := 86) 1 dX2_span_86 rfl ?_
  obtain rfl := Option.some.inj hf
  exact V_iret (Y := m_X2_span) rfl dX2_span_87
def f_X2_span (a0 : Nat) (M : Mem) : Option (Int32 × Mem) := f_X2_span_b0 a0 M
set_option maxRecDepth 20000 in
set_option maxHeartbeats 4000000 in
theorem ok_X2_span {l : Launch} {g : Gam} {b : Nat} : ∀ (a0 : Nat) (M : Mem) (z : Int32 × Mem), shC[a0]? = some (1, 2) → f_X2_span a0 M = some z → Cn l g (wC b) m_X2_span [.ref (b + a0)] M (some (.int z.1)) z.2 := fun a0 M z ha0 hf => Cn_of (by decide +kernel) (Nat.le_of_ble_eq_true rfl) (V_sub [0] rfl (ok_X2_span_b0 a0 M z ha0 hf))

abbrev m_X9_worthOf : Mth := (yX9_worthOf, cX9_worthOf, 3, some .int, 1)
theorem yf_X9_worthOf : YF m_X9_worthOf 1 := ⟨tw_546, tw_65, by decide +kernel, by decide +kernel⟩
def f_X9_worthOf_b0  (x0 : Int32) (M : Mem) : Option (Int32 × Mem) :=
  if x0 = (3 : Int32) then
    some ((5 : Int32), M)
  else
  if x0 = (4 : Int32) then
    some (((1 : Int32) + (1 : Int32)), M)
  else
  if x0 = (5 : Int32) then
    some (((1 : Int32) + (1 : Int32)), M)
  else
  if x0 = (6 : Int32) then
    some (((1 : Int32) + (2 : Int32)), M)
  else
  if x0 = (7 : Int32) then
    some (((4 : Int32) * ((1 : Int32) + (1 : Int32))), M)
  else
  some ((1 : Int32), M)
set_option maxRecDepth 20000 in
set_option maxHeartbeats 4000000 in
theorem ok_X9_worthOf_b0 {l : Launch} {g : Gam} {b : Nat}   (x0 : Int32) (M : Mem) (z : Int32 × Mem)  (hf : f_X9_worthOf_b0 x0 M = some z) : V l g (wC b) m_X9_worthOf 0 [(0, .int x0)] [] M (some (.int z.1)) z.2 := by
  unfold f_X9_worthOf_b0 at hf
  refine V_iconst (Y := m_X9_worthOf) (pc := 0) (x := (1 : Int32)) dX9_worthOf_0 (by decide +kernel) ?_
  refine V_istore_n (Y := m_X9_worthOf) (pc := 1) [(1, .int (1 : Int32)), (0, .int x0)] dX9_worthOf_1 (by decide +kernel) rfl ?_
  refine V_iload_n (Y := m_X9_worthOf) (pc := 2) 0 dX9_worthOf_2 rfl ?_
  refine V_iconst (Y := m_X9_worthOf) (pc := 3) (x := (1 : Int32)) dX9_worthOf_3 (by decide +kernel) ?_
  refine V_iadd (Y := m_X9_worthOf) (pc := 4) dX9_worthOf_4 ?_
  refine V_istore_n (Y := m_X9_worthOf) (pc := 5) [(2, .int ((1 : Int32) + (1 : Int32))), (1, .int (1 : Int32)), (0, .int x0)] dX9_worthOf_5 (by decide +kernel) rfl ?_
  refine V_iload_n (Y := m_X9_worthOf) (pc := 6) 2 dX9_worthOf_6 rfl ?_
  by_cases hc1 : x0 = (3 : Int32)
  · rw [if_pos hc1] at hf
    refine V_tsw (Y := m_X9_worthOf) (pc := 7) (tgt := 40) (3 : Int32) hc1 dX9_worthOf_7 (by decide +kernel) ?_
    refine V_iconst (Y := m_X9_worthOf) (pc := 40) (x := (5 : Int32)) dX9_worthOf_40 (by decide +kernel) ?_
    obtain rfl := Option.some.inj hf
    exact V_iret (Y := m_X9_worthOf) rfl dX9_worthOf_41
  rw [if_neg hc1] at hf
  by_cases hc2 : x0 = (4 : Int32)
  · rw [if_pos hc2] at hf
    refine V_tsw (Y := m_X9_worthOf) (pc := 7) (tgt := 42) (4 : Int32) hc2 dX9_worthOf_7 (by decide +kernel) ?_
    refine V_iload_n (Y := m_X9_worthOf) (pc := 42) 0 dX9_worthOf_42 rfl ?_
    obtain rfl := Option.some.inj hf
    exact V_iret (Y := m_X9_worthOf) rfl dX9_worthOf_43
  rw [if_neg hc2] at hf
  by_cases hc3 : x0 = (5 : Int32)
  · rw [if_pos hc3] at hf
    refine V_tsw (Y := m_X9_worthOf) (pc := 7) (tgt := 42) (5 : Int32) hc3 dX9_worthOf_7 (by decide +kernel) ?_
    refine V_iload_n (Y := m_X9_worthOf) (pc := 42) 0 dX9_worthOf_42 rfl ?_
    obtain rfl := Option.some.inj hf
    exact V_iret (Y := m_X9_worthOf) rfl dX9_worthOf_43
  rw [if_neg hc3] at hf
  by_cases hc4 : x0 = (6 : Int32)
  · rw [if_pos hc4] at hf
    refine V_tsw (Y := m_X9_worthOf) (pc := 7) (tgt := 44) (6 : Int32) hc4 dX9_worthOf_7 (by decide +kernel) ?_
    refine V_iload_n (Y := m_X9_worthOf) (pc := 44) 1 dX9_worthOf_44 rfl ?_
    refine V_iconst (Y := m_X9_worthOf) (pc := 45) (x := (2 : Int32)) dX9_worthOf_45 (by decide +kernel) ?_
    refine V_iadd (Y := m_X9_worthOf) (pc := 46) dX9_worthOf_46 ?_
    obtain rfl := Option.some.inj hf
    exact V_iret (Y := m_X9_worthOf) rfl dX9_worthOf_47
  rw [if_neg hc4] at hf
  by_cases hc5 : x0 = (7 : Int32)
  · rw [if_pos hc5] at hf
    refine V_tsw (Y := m_X9_worthOf) (pc := 7) (tgt := 48) (7 : Int32) hc5 dX9_worthOf_7 (by decide +kernel) ?_
    refine V_iconst (Y := m_X9_worthOf) (pc := 48) (x := (4 : Int32)) dX9_worthOf_48 (by decide +kernel) ?_
    refine V_iload_n (Y := m_X9_worthOf) (pc := 49) 0 dX9_worthOf_49 rfl ?_
    refine V_imul (Y := m_X9_worthOf) (pc := 50) dX9_worthOf_50 ?_
    obtain rfl := Option.some.inj hf
    exact V_iret (Y := m_X9_worthOf) rfl dX9_worthOf_51
  rw [if_neg hc5] at hf
  refine V_tswO (Y := m_X9_worthOf) (pc := 7) (tgt := 52) [(3 : Int32), (4 : Int32), (5 : Int32), (6 : Int32), (7 : Int32)] (List.forall_mem_cons.mpr ⟨hc1, (List.forall_mem_cons.mpr ⟨hc2, (List.forall_mem_cons.mpr ⟨hc3, (List.forall_mem_cons.mpr ⟨hc4, (List.forall_mem_cons.mpr ⟨hc5, (fun _ h => absurd h List.not_mem_nil)⟩)⟩)⟩)⟩)⟩) dX9_worthOf_7 (by decide +kernel) (by decide +kernel) ?_
  refine V_iload_n (Y := m_X9_worthOf) (pc := 52) 1 dX9_worthOf_52 rfl ?_
  obtain rfl := Option.some.inj hf
  exact V_iret (Y := m_X9_worthOf) rfl dX9_worthOf_53
def f_X9_worthOf (x0 : Int32) (M : Mem) : Option (Int32 × Mem) := f_X9_worthOf_b0 x0 M
set_option maxRecDepth 20000 in
set_option maxHeartbeats 4000000 in
theorem ok_X9_worthOf {l : Launch} {g : Gam} {b : Nat} : ∀ (x0 : Int32) (M : Mem) (z : Int32 × Mem), f_X9_worthOf x0 M = some z → Cn l g (wC b) m_X9_worthOf [.int x0] M (some (.int z.1)) z.2 := fun x0 M z  hf => Cn_of (by decide +kernel) (Nat.le_of_ble_eq_true rfl) (V_sub [0] rfl (ok_X9_worthOf_b0 x0 M z  hf))

abbrev m_X1_narrow : Mth := (yX1_narrow, cX1_narrow, 4, none, 2)
theorem yf_X1_narrow : YF m_X1_narrow 2 := ⟨tw_725, tw_67, by decide +kernel, by decide +kernel⟩
def f_X1_narrow_bc97_1  (s0 : Int32) (M : Mem) : Option (Int32 × Mem) :=
  some (0, (mset M 4 4 s0))
set_option maxRecDepth 20000 in
set_option maxHeartbeats 4000000 in
theorem ok_X1_narrow_bc97_1 {l : Launch} {g : Gam} {b : Nat}   (s0 : Int32) (M : Mem) (z : Int32 × Mem)  (hf : f_X1_narrow_bc97_1 s0 M = some z) : V l g (wC b) m_X1_narrow 97 [] [.int s0, .ref (b + 4)] M none z.2 := by
  unfold f_X1_narrow_bc97_1 at hf
  refine V_pi (Y := m_X1_narrow) (pc := 97) 4 kX1 sC_4 (by decide +kernel) rfl rfl rfl tw_159 dX1_narrow_97 ?_
  obtain rfl := Option.some.inj hf
  exact V_vret (Y := m_X1_narrow) rfl dX1_narrow_100
def f_X1_narrow_b56  (a1 : Nat) (s0 : Int32) (M : Mem) : Option (Int32 × Mem) :=
  (f_X9_worthOf ((mset (mset M 4 2 s0) 4 0 (((mset M 4 2 s0) 4 0) + (1 : Int32))) a1 0) (mset (mset M 4 2 s0) 4 0 (((mset M 4 2 s0) 4 0) + (1 : Int32)))).bind fun q1 =>
  f_X1_narrow_bc97_1  (((mset q1.2 4 3 (((mset (mset M 4 2 s0) 4 0 (((mset M 4 2 s0) 4 0) + (1 : Int32))) 4 3) + q1.1)) 4 4) ||| ((1 : Int32) <<< (((mset q1.2 4 3 (((mset (mset M 4 2 s0) 4 0 (((mset M 4 2 s0) 4 0) + (1 : Int32))) 4 3) + q1.1)) a1 1) &&& 31))) (mset q1.2 4 3 (((mset (mset M 4 2 s0) 4 0 (((mset M 4 2 s0) 4 0) + (1 : Int32))) 4 3) + q1.1))
set_option maxRecDepth 20000 in
set_option maxHeartbeats 4000000 in
theorem ok_X1_narrow_b56 {l : Launch} {g : Gam} {b : Nat}   (a1 : Nat) (s0 : Int32) (M : Mem) (z : Int32 × Mem) (ha1 : shC[a1]? = some (1, 2)) (hf : f_X1_narrow_b56 a1 s0 M = some z) : V l g (wC b) m_X1_narrow 56 [(0, .ref (b + 4)), (1, .ref (b + a1))] [.int s0, .ref (b + 4)] M none z.2 := by
  unfold f_X1_narrow_b56 at hf
  refine V_pi (Y := m_X1_narrow) (pc := 56) 2 kX1 sC_4 (by decide +kernel) rfl rfl rfl tw_155 dX1_narrow_56 ?_
  refine V_aload_n (Y := m_X1_narrow) (pc := 59) 0 dX1_narrow_59 rfl ?_
  refine V_dup (Y := m_X1_narrow) (pc := 60) dX1_narrow_60 rfl ?_
  refine V_gi (Y := m_X1_narrow) (pc := 61) 0 kX1 sC_4 (by decide +kernel) rfl tw_151 dX1_narrow_61 ?_
  refine V_iconst (Y := m_X1_narrow) (pc := 64) (x := (1 : Int32)) dX1_narrow_64 (by decide +kernel) ?_
  refine V_iadd (Y := m_X1_narrow) (pc := 65) dX1_narrow_65 ?_
  refine V_pi (Y := m_X1_narrow) (pc := 66) 0 kX1 sC_4 (by decide +kernel) rfl rfl rfl tw_151 dX1_narrow_66 ?_
  refine V_aload_n (Y := m_X1_narrow) (pc := 69) 0 dX1_narrow_69 rfl ?_
  refine V_dup (Y := m_X1_narrow) (pc := 70) dX1_narrow_70 rfl ?_
  refine V_gi (Y := m_X1_narrow) (pc := 71) 3 kX1 sC_4 (by decide +kernel) rfl tw_157 dX1_narrow_71 ?_
  refine V_aload_n (Y := m_X1_narrow) (pc := 74) 1 dX1_narrow_74 rfl ?_
  refine V_gi (Y := m_X1_narrow) (pc := 75) 0 kX2 ha1 (by decide +kernel) rfl tw_283 dX1_narrow_75 ?_
  obtain ⟨q1, hq1, hf⟩ := g_bind hf
  refine V_cSNi (Y := m_X1_narrow) (pc := 78) (As := [.int ((mset (mset M 4 2 s0) 4 0 (((mset M 4 2 s0) 4 0) + (1 : Int32))) a1 0)]) yf_X9_worthOf (by decide +kernel) (ok_X9_worthOf ((mset (mset M 4 2 s0) 4 0 (((mset M 4 2 s0) 4 0) + (1 : Int32))) a1 0) (mset (mset M 4 2 s0) 4 0 (((mset M 4 2 s0) 4 0) + (1 : Int32))) _  hq1) tw_545 nw_733 rfl rfl (Nat.le_of_ble_eq_true rfl) dX1_narrow_78 ?_
  refine V_iadd (Y := m_X1_narrow) (pc := 81) dX1_narrow_81 ?_
  refine V_pi (Y := m_X1_narrow) (pc := 82) 3 kX1 sC_4 (by decide +kernel) rfl rfl rfl tw_157 dX1_narrow_82 ?_
  refine V_aload_n (Y := m_X1_narrow) (pc := 85) 0 dX1_narrow_85 rfl ?_
  refine V_dup (Y := m_X1_narrow) (pc := 86) dX1_narrow_86 rfl ?_
  refine V_gi (Y := m_X1_narrow) (pc := 87) 4 kX1 sC_4 (by decide +kernel) rfl tw_159 dX1_narrow_87 ?_
  refine V_iconst (Y := m_X1_narrow) (pc := 90) (x := (1 : Int32)) dX1_narrow_90 (by decide +kernel) ?_
  refine V_aload_n (Y := m_X1_narrow) (pc := 91) 1 dX1_narrow_91 rfl ?_
  refine V_gi (Y := m_X1_narrow) (pc := 92) 1 kX2 ha1 (by decide +kernel) rfl tw_288 dX1_narrow_92 ?_
  refine V_ishl (Y := m_X1_narrow) (pc := 95) dX1_narrow_95 ?_
  refine V_ior (Y := m_X1_narrow) (pc := 96) dX1_narrow_96 ?_
  exact V_sub [] rfl (ok_X1_narrow_bc97_1  (((mset q1.2 4 3 (((mset (mset M 4 2 s0) 4 0 (((mset M 4 2 s0) 4 0) + (1 : Int32))) 4 3) + q1.1)) 4 4) ||| ((1 : Int32) <<< (((mset q1.2 4 3 (((mset (mset M 4 2 s0) 4 0 (((mset M 4 2 s0) 4 0) + (1 : Int32))) 4 3) + q1.1)) a1 1) &&& 31))) (mset q1.2 4 3 (((mset (mset M 4 2 s0) 4 0 (((mset M 4 2 s0) 4 0) + (1 : Int32))) 4 3) + q1.1)) z  hf)
def f_X1_narrow_b29  (a1 : Nat) (x2 : Int32) (x3 : Int32) (s0 : Int32) (M : Mem) : Option (Int32 × Mem) :=
  if ((mset M 4 1 s0) 4 0) = 0 then
    f_X1_narrow_b56  a1 (x2 + x3) (mset M 4 1 s0)
  else
    f_X1_narrow_b56  a1 (imin ((mset M 4 1 s0) 4 2) (x2 + x3)) (mset M 4 1 s0)
set_option maxRecDepth 20000 in
set_option maxHeartbeats 4000000 in
theorem ok_X1_narrow_b29 {l : Launch} {g : Gam} {b : Nat}   (a1 : Nat) (x2 : Int32) (x3 : Int32) (s0 : Int32) (M : Mem) (z : Int32 × Mem) (ha1 : shC[a1]? = some (1, 2)) (hf : f_X1_narrow_b29 a1 x2 x3 s0 M = some z) : V l g (wC b) m_X1_narrow 29 [(0, .ref (b + 4)), (1, .ref (b + a1)), (2, .int x2), (3, .int x3)] [.int s0, .ref (b + 4)] M none z.2 := by
  unfold f_X1_narrow_b29 at hf
  refine V_pi (Y := m_X1_narrow) (pc := 29) 1 kX1 sC_4 (by decide +kernel) rfl rfl rfl tw_153 dX1_narrow_29 ?_
  refine V_aload_n (Y := m_X1_narrow) (pc := 32) 0 dX1_narrow_32 rfl ?_
  refine V_aload_n (Y := m_X1_narrow) (pc := 33) 0 dX1_narrow_33 rfl ?_
  refine V_gi (Y := m_X1_narrow) (pc := 34) 0 kX1 sC_4 (by decide +kernel) rfl tw_151 dX1_narrow_34 ?_
  refine V_if_ne (Y := m_X1_narrow) (pc := 37) (tgt := 46) dX1_narrow_37 (by decide +kernel) hf (fun hf => ?_) (fun hf => ?_)
  · refine V_aload_n (Y := m_X1_narrow) (pc := 46) 0 dX1_narrow_46 rfl ?_
    refine V_gi (Y := m_X1_narrow) (pc := 47) 2 kX1 sC_4 (by decide +kernel) rfl tw_155 dX1_narrow_47 ?_
    refine V_iload_n (Y := m_X1_narrow) (pc := 50) 2 dX1_narrow_50 rfl ?_
    refine V_iload_n (Y := m_X1_narrow) (pc := 51) 3 dX1_narrow_51 rfl ?_
    refine V_iadd (Y := m_X1_narrow) (pc := 52) dX1_narrow_52 ?_
    refine V_mmin (Y := m_X1_narrow) (pc := 53) (by decide +kernel) j_mmin tw_730 (Nat.le_of_ble_eq_true rfl) dX1_narrow_53 ?_
    exact V_sub [0, 1] rfl (ok_X1_narrow_b56  a1 (imin ((mset M 4 1 s0) 4 2) (x2 + x3)) (mset M 4 1 s0) z ha1 hf)
  · refine V_iload_n (Y := m_X1_narrow) (pc := 40) 2 dX1_narrow_40 rfl ?_
    refine V_iload_n (Y := m_X1_narrow) (pc := 41) 3 dX1_narrow_41 rfl ?_
    refine V_iadd (Y := m_X1_narrow) (pc := 42) dX1_narrow_42 ?_
    refine V_goto (Y := m_X1_narrow) (pc := 43) (tgt := 56) dX1_narrow_43 (by decide +kernel) ?_
    exact V_sub [0, 1] rfl (ok_X1_narrow_b56  a1 (x2 + x3) (mset M 4 1 s0) z ha1 hf)
def f_X1_narrow_b0  (a1 : Nat) (x2 : Int32) (M : Mem) : Option (Int32 × Mem) :=
  (f_X2_span a1 M).bind fun q1 =>
  if (q1.2 4 0) = 0 then
    f_X1_narrow_b29  a1 x2 q1.1 (x2 - q1.1) q1.2
  else
    f_X1_narrow_b29  a1 x2 q1.1 (imax (q1.2 4 1) (x2 - q1.1)) q1.2
set_option maxRecDepth 20000 in
set_option maxHeartbeats 4000000 in
theorem ok_X1_narrow_b0 {l : Launch} {g : Gam} {b : Nat}   (a1 : Nat) (x2 : Int32) (M : Mem) (z : Int32 × Mem) (ha1 : shC[a1]? = some (1, 2)) (hf : f_X1_narrow_b0 a1 x2 M = some z) : V l g (wC b) m_X1_narrow 0 [(0, .ref (b + 4)), (1, .ref (b + a1)), (2, .int x2)] [] M none z.2 := by
  unfold f_X1_narrow_b0 at hf
  refine V_aload_n (Y := m_X1_narrow) (pc := 0) 1 dX1_narrow_0 rfl ?_
  obtain ⟨q1, hq1, hf⟩ := g_bind hf
  refine V_cVi (Y := m_X1_narrow) (pc := 1) (As := []) yf_X2_span kX2 ha1 (by decide +kernel) (ok_X2_span a1 M _ ha1 hq1) tw_541 tw_542 tw_726 rfl rfl (Nat.le_of_ble_eq_true rfl) dX1_narrow_1 ?_
  refine V_istore_n (Y := m_X1_narrow) (pc := 4) [(3, .int q1.1), (0, .ref (b + 4)), (1, .ref (b + a1)), (2, .int x2)] dX1_narrow_4 (by decide +kernel) rfl ?_
  refine V_aload_n (Y := m_X1_narrow) (pc := 5) 1 dX1_narrow_5 rfl ?_
  refine V_aload_n (Y := m_X1_narrow) (pc := 6) 1 dX1_narrow_6 rfl ?_
  refine V_gi (Y := m_X1_narrow) (pc := 7) 0 kX1 sC_4 (by decide +kernel) rfl tw_151 dX1_narrow_7 ?_
  refine V_if_ne (Y := m_X1_narrow) (pc := 10) (tgt := 19) dX1_narrow_10 (by decide +kernel) hf (fun hf => ?_) (fun hf => ?_)
  · refine V_aload_n (Y := m_X1_narrow) (pc := 19) 1 dX1_narrow_19 rfl ?_
    refine V_gi (Y := m_X1_narrow) (pc := 20) 1 kX1 sC_4 (by decide +kernel) rfl tw_153 dX1_narrow_20 ?_
    refine V_iload_n (Y := m_X1_narrow) (pc := 23) 3 dX1_narrow_23 rfl ?_
    refine V_iload_n (Y := m_X1_narrow) (pc := 24) 0 dX1_narrow_24 rfl ?_
    refine V_isub (Y := m_X1_narrow) (pc := 25) dX1_narrow_25 ?_
    refine V_mmax (Y := m_X1_narrow) (pc := 26) (by decide +kernel) j_mmax tw_727 (Nat.le_of_ble_eq_true rfl) dX1_narrow_26 ?_
    exact V_sub [1, 2, 3, 0] rfl (ok_X1_narrow_b29  a1 x2 q1.1 (imax (q1.2 4 1) (x2 - q1.1)) q1.2 z ha1 hf)
  · refine V_iload_n (Y := m_X1_narrow) (pc := 13) 3 dX1_narrow_13 rfl ?_
    refine V_iload_n (Y := m_X1_narrow) (pc := 14) 0 dX1_narrow_14 rfl ?_
    refine V_isub (Y := m_X1_narrow) (pc := 15) dX1_narrow_15 ?_
    refine V_goto (Y := m_X1_narrow) (pc := 16) (tgt := 29) dX1_narrow_16 (by decide +kernel) ?_
    exact V_sub [1, 2, 3, 0] rfl (ok_X1_narrow_b29  a1 x2 q1.1 (x2 - q1.1) q1.2 z ha1 hf)
def f_X1_narrow (a1 : Nat) (x2 : Int32) (M : Mem) : Option (Int32 × Mem) := f_X1_narrow_b0 a1 x2 M
set_option maxRecDepth 20000 in
set_option maxHeartbeats 4000000 in
theorem ok_X1_narrow {l : Launch} {g : Gam} {b : Nat} : ∀ (a1 : Nat) (x2 : Int32) (M : Mem) (z : Int32 × Mem), shC[a1]? = some (1, 2) → f_X1_narrow a1 x2 M = some z → Cn l g (wC b) m_X1_narrow [.ref (b + 4), .ref (b + a1), .int x2] M none z.2 := fun a1 x2 M z ha1 hf => Cn_of (by decide +kernel) (Nat.le_of_ble_eq_true rfl) (V_sub [0, 1, 2] rfl (ok_X1_narrow_b0 a1 x2 M z ha1 hf))

abbrev m_X1_look : Mth := (yX1_look, cX1_look, 5, none, 6)
theorem yf_X1_look : YF m_X1_look 2 := ⟨tw_720, tw_67, by decide +kernel, by decide +kernel⟩
def f_X1_look_b54 (k17 : Nat → Int32 → Int32 → Mem → Option (Int32 × Mem)) (a1 : Nat) (x2 : Int32) (x3 : Int32) (M : Mem) : Option (Int32 × Mem) :=
  k17 a1 x2 (x3 + (1 : Int32)) M
set_option maxRecDepth 20000 in
set_option maxHeartbeats 4000000 in
theorem ok_X1_look_b54 {l : Launch} {g : Gam} {b : Nat} (k17 : Nat → Int32 → Int32 → Mem → Option (Int32 × Mem)) (hk17 : ∀ (a1 : Nat) (x2 : Int32) (x3 : Int32) (M : Mem) (z : Int32 × Mem), shC[a1]? = some (1, 0) → k17 a1 x2 x3 M = some z → V l g (wC b) m_X1_look 17 [(0, .ref (b + 4)), (1, .ref (b + a1)), (2, .int x2), (3, .int x3)] [] M none z.2) (a1 : Nat) (x2 : Int32) (x3 : Int32) (M : Mem) (z : Int32 × Mem) (ha1 : shC[a1]? = some (1, 0)) (hf : f_X1_look_b54 k17 a1 x2 x3 M = some z) : V l g (wC b) m_X1_look 54 [(0, .ref (b + 4)), (1, .ref (b + a1)), (2, .int x2), (3, .int x3)] [] M none z.2 := by
  unfold f_X1_look_b54 at hf
  refine V_iinc (Y := m_X1_look) (pc := 54) (y := (x3 + (1 : Int32))) 3 [(3, .int (x3 + (1 : Int32))), (0, .ref (b + 4)), (1, .ref (b + a1)), (2, .int x2)] dX1_look_54 rfl rfl (by decide +kernel) rfl ?_
  refine V_goto (Y := m_X1_look) (pc := 57) (tgt := 17) dX1_look_57 (by decide +kernel) ?_
  exact V_sub [1, 2, 3, 0] rfl (hk17 a1 x2 (x3 + (1 : Int32)) M z ha1 hf)
def f_X1_look_b17  : Nat → Nat → Int32 → Int32 → Mem → Option (Int32 × Mem)
  | 0, _, _, _, _ => none
  | n + 1, a1, x2, x3, M =>
    if (M a1 9) ≤ x3 then
      some (0, M)
    else
      if ixb x3 24 = true then
      if (M (rfC (rfC a1 0) (ix x3)) 5) = x2 then
        (f_X0_saysOf a1 (rfC (rfC a1 0) (ix x3)) M).bind fun q2 =>
        (f_X1_narrow (rfC (rfC a1 0) (ix x3)) q2.1 q2.2).bind fun q3 =>
        f_X1_look_b54 (f_X1_look_b17  n) a1 x2 x3 q3.2
      else
        f_X1_look_b54 (f_X1_look_b17  n) a1 x2 x3 M
      else none
set_option maxRecDepth 20000 in
set_option maxHeartbeats 4000000 in
theorem ok_X1_look_b17 {l : Launch} {g : Gam} {b : Nat}   : ∀ (n : Nat) (a1 : Nat) (x2 : Int32) (x3 : Int32) (M : Mem) (z : Int32 × Mem), (ha1 : shC[a1]? = some (1, 0)) → f_X1_look_b17  n a1 x2 x3 M = some z → V l g (wC b) m_X1_look 17 [(0, .ref (b + 4)), (1, .ref (b + a1)), (2, .int x2), (3, .int x3)] [] M none z.2 := by
  intro n
  induction n with
  | zero =>
    intro a1 x2 x3 M z ha1 hf
    cases hf
  | succ n ih =>
    intro a1 x2 x3 M z ha1 hf
    rw [f_X1_look_b17] at hf
    refine V_iload_n (Y := m_X1_look) (pc := 17) 3 dX1_look_17 rfl ?_
    refine V_aload_n (Y := m_X1_look) (pc := 18) 1 dX1_look_18 rfl ?_
    refine V_gi (Y := m_X1_look) (pc := 19) 9 kX0 ha1 (by decide +kernel) rfl tw_351 dX1_look_19 ?_
    refine V_icmp_ge (Y := m_X1_look) (pc := 22) (tgt := 60) dX1_look_22 (by decide +kernel) hf (fun hf => ?_) (fun hf => ?_)
    · obtain rfl := Option.some.inj hf
      exact V_vret (Y := m_X1_look) rfl dX1_look_60
    · refine V_aload_n (Y := m_X1_look) (pc := 25) 1 dX1_look_25 rfl ?_
      refine V_gr (Y := m_X1_look) (pc := 26) 0 kX0 ha1 (by decide +kernel) rfl tw_330 dX1_look_26 ?_
      refine V_iload_n (Y := m_X1_look) (pc := 29) 3 dX1_look_29 rfl ?_
      obtain ⟨hi1, hf⟩ := g_if hf
      refine V_aald (Y := m_X1_look) (pc := 30) 1 rfl (wtC.1 _ _ ha1 0 _ rfl) hi1 dX1_look_30 ?_
      refine V_astore (Y := m_X1_look) (pc := 31) [(4, .ref (b + (rfC (rfC a1 0) (ix x3)))), (0, .ref (b + 4)), (1, .ref (b + a1)), (2, .int x2), (3, .int x3)] dX1_look_31 (by decide +kernel) rfl ?_
      refine V_aload (Y := m_X1_look) (pc := 33) 0 dX1_look_33 rfl ?_
      refine V_gi (Y := m_X1_look) (pc := 35) 5 kX2 (wtC.2 _ _ _ (wtC.1 _ _ ha1 0 _ rfl) _ (ixb_lt hi1)) (by decide +kernel) rfl tw_306 dX1_look_35 ?_
      refine V_iload_n (Y := m_X1_look) (pc := 38) 3 dX1_look_38 rfl ?_
      refine V_icmp_ne (Y := m_X1_look) (pc := 39) (tgt := 54) dX1_look_39 (by decide +kernel) hf (fun hf => ?_) (fun hf => ?_)
      · exact V_sub [1, 2, 3, 4] rfl (ok_X1_look_b54 (f_X1_look_b17  n) ih a1 x2 x3 M z ha1 hf)
      · refine V_aload_n (Y := m_X1_look) (pc := 42) 1 dX1_look_42 rfl ?_
        refine V_aload (Y := m_X1_look) (pc := 43) 0 dX1_look_43 rfl ?_
        refine V_aload_n (Y := m_X1_look) (pc := 45) 2 dX1_look_45 rfl ?_
        refine V_aload (Y := m_X1_look) (pc := 46) 0 dX1_look_46 rfl ?_
        obtain ⟨q2, hq2, hf⟩ := g_bind hf
        refine V_cVi (Y := m_X1_look) (pc := 48) (As := [.ref (b + (rfC (rfC a1 0) (ix x3)))]) yf_X0_saysOf kX0 ha1 (by decide +kernel) (ok_X0_saysOf a1 (rfC (rfC a1 0) (ix x3)) M _ ha1 (wtC.2 _ _ _ (wtC.1 _ _ ha1 0 _ rfl) _ (ixb_lt hi1)) hq2) tw_498 tw_499 tw_721 rfl rfl (Nat.le_of_ble_eq_true rfl) dX1_look_48 ?_
        obtain ⟨q3, hq3, hf⟩ := g_bind hf
        refine V_cVv (Y := m_X1_look) (pc := 51) (As := [.ref (b + (rfC (rfC a1 0) (ix x3))), .int q2.1]) yf_X1_narrow kX1 sC_4 (by decide +kernel) (ok_X1_narrow (rfC (rfC a1 0) (ix x3)) q2.1 q2.2 _ (wtC.2 _ _ _ (wtC.1 _ _ ha1 0 _ rfl) _ (ixb_lt hi1)) hq3) tw_724 tw_11 tw_722 rfl rfl (Nat.le_of_ble_eq_true rfl) dX1_look_51 ?_
        exact V_sub [1, 2, 3, 4] rfl (ok_X1_look_b54 (f_X1_look_b17  n) ih a1 x2 x3 q3.2 z ha1 hf)
def f_X1_look_b0  (a1 : Nat) (x2 : Int32) (M : Mem) : Option (Int32 × Mem) :=
  f_X1_look_b17  FU a1 x2 (0 : Int32) (mset (mset (mset M 4 0 (0 : Int32)) 4 3 (0 : Int32)) 4 4 (0 : Int32))
set_option maxRecDepth 20000 in
set_option maxHeartbeats 4000000 in
theorem ok_X1_look_b0 {l : Launch} {g : Gam} {b : Nat}   (a1 : Nat) (x2 : Int32) (M : Mem) (z : Int32 × Mem) (ha1 : shC[a1]? = some (1, 0)) (hf : f_X1_look_b0 a1 x2 M = some z) : V l g (wC b) m_X1_look 0 [(0, .ref (b + 4)), (1, .ref (b + a1)), (2, .int x2)] [] M none z.2 := by
  unfold f_X1_look_b0 at hf
  refine V_aload_n (Y := m_X1_look) (pc := 0) 0 dX1_look_0 rfl ?_
  refine V_iconst (Y := m_X1_look) (pc := 1) (x := (0 : Int32)) dX1_look_1 (by decide +kernel) ?_
  refine V_pi (Y := m_X1_look) (pc := 2) 0 kX1 sC_4 (by decide +kernel) rfl rfl rfl tw_151 dX1_look_2 ?_
  refine V_aload_n (Y := m_X1_look) (pc := 5) 0 dX1_look_5 rfl ?_
  refine V_iconst (Y := m_X1_look) (pc := 6) (x := (0 : Int32)) dX1_look_6 (by decide +kernel) ?_
  refine V_pi (Y := m_X1_look) (pc := 7) 3 kX1 sC_4 (by decide +kernel) rfl rfl rfl tw_157 dX1_look_7 ?_
  refine V_aload_n (Y := m_X1_look) (pc := 10) 0 dX1_look_10 rfl ?_
  refine V_iconst (Y := m_X1_look) (pc := 11) (x := (0 : Int32)) dX1_look_11 (by decide +kernel) ?_
  refine V_pi (Y := m_X1_look) (pc := 12) 4 kX1 sC_4 (by decide +kernel) rfl rfl rfl tw_159 dX1_look_12 ?_
  refine V_iconst (Y := m_X1_look) (pc := 15) (x := (0 : Int32)) dX1_look_15 (by decide +kernel) ?_
  refine V_istore_n (Y := m_X1_look) (pc := 16) [(3, .int (0 : Int32)), (0, .ref (b + 4)), (1, .ref (b + a1)), (2, .int x2)] dX1_look_16 (by decide +kernel) rfl ?_
  exact V_sub [1, 2, 3, 0] rfl (ok_X1_look_b17  FU a1 x2 (0 : Int32) (mset (mset (mset M 4 0 (0 : Int32)) 4 3 (0 : Int32)) 4 4 (0 : Int32)) z ha1 hf)
def f_X1_look (a1 : Nat) (x2 : Int32) (M : Mem) : Option (Int32 × Mem) := f_X1_look_b0 a1 x2 M
set_option maxRecDepth 20000 in
set_option maxHeartbeats 4000000 in
theorem ok_X1_look {l : Launch} {g : Gam} {b : Nat} : ∀ (a1 : Nat) (x2 : Int32) (M : Mem) (z : Int32 × Mem), shC[a1]? = some (1, 0) → f_X1_look a1 x2 M = some z → Cn l g (wC b) m_X1_look [.ref (b + 4), .ref (b + a1), .int x2] M none z.2 := fun a1 x2 M z ha1 hf => Cn_of (by decide +kernel) (Nat.le_of_ble_eq_true rfl) (V_sub [0, 1, 2] rfl (ok_X1_look_b0 a1 x2 M z ha1 hf))

abbrev m_X1_areSeen : Mth := (yX1_areSeen, cX1_areSeen, 1, some .boolean, 1)
theorem yf_X1_areSeen : YF m_X1_areSeen 0 := ⟨tw_737, tw_67, by decide +kernel, by decide +kernel⟩
def f_X1_areSeen_b0   (M : Mem) : Option (Int32 × Mem) :=
  if (M 4 0) ≤ 0 then
    some ((0 : Int32), M)
  else
    some ((1 : Int32), M)
set_option maxRecDepth 20000 in
set_option maxHeartbeats 4000000 in
theorem ok_X1_areSeen_b0 {l : Launch} {g : Gam} {b : Nat}    (M : Mem) (z : Int32 × Mem)  (hf : f_X1_areSeen_b0  M = some z) : V l g (wC b) m_X1_areSeen 0 [(0, .ref (b + 4))] [] M (some (.int z.1)) z.2 := by
  unfold f_X1_areSeen_b0 at hf
  refine V_aload_n (Y := m_X1_areSeen) (pc := 0) 0 dX1_areSeen_0 rfl ?_
  refine V_gi (Y := m_X1_areSeen) (pc := 1) 0 kX1 sC_4 (by decide +kernel) rfl tw_151 dX1_areSeen_1 ?_
  refine V_if_le (Y := m_X1_areSeen) (pc := 4) (tgt := 11) dX1_areSeen_4 (by decide +kernel) hf (fun hf => ?_) (fun hf => ?_)
  · refine V_iconst (Y := m_X1_areSeen) (pc := 11) (x := (0 : Int32)) dX1_areSeen_11 (by decide +kernel) ?_
    obtain rfl := Option.some.inj hf
    exact V_zret (Y := m_X1_areSeen) z01_0 rfl dX1_areSeen_12
  · refine V_iconst (Y := m_X1_areSeen) (pc := 7) (x := (1 : Int32)) dX1_areSeen_7 (by decide +kernel) ?_
    refine V_goto (Y := m_X1_areSeen) (pc := 8) (tgt := 12) dX1_areSeen_8 (by decide +kernel) ?_
    obtain rfl := Option.some.inj hf
    exact V_zret (Y := m_X1_areSeen) z01_1 rfl dX1_areSeen_12
def f_X1_areSeen  (M : Mem) : Option (Int32 × Mem) := f_X1_areSeen_b0  M
set_option maxRecDepth 20000 in
set_option maxHeartbeats 4000000 in
theorem ok_X1_areSeen {l : Launch} {g : Gam} {b : Nat} : ∀  (M : Mem) (z : Int32 × Mem), f_X1_areSeen  M = some z → Cn l g (wC b) m_X1_areSeen [.ref (b + 4)] M (some (.int z.1)) z.2 := fun  M z  hf => Cn_of (by decide +kernel) (Nat.le_of_ble_eq_true rfl) (V_sub [0] rfl (ok_X1_areSeen_b0  M z  hf))

abbrev m_X1_hold : Mth := (yX1_hold, cX1_hold, 1, some .boolean, 1)
theorem yf_X1_hold : YF m_X1_hold 0 := ⟨tw_745, tw_67, by decide +kernel, by decide +kernel⟩
def f_X1_hold_b0   (M : Mem) : Option (Int32 × Mem) :=
  if (M 4 0) ≤ 0 then
    some ((0 : Int32), M)
  else
    if (M 4 2) < (M 4 1) then
      some ((0 : Int32), M)
    else
      some ((1 : Int32), M)
set_option maxRecDepth 20000 in
set_option maxHeartbeats 4000000 in
theorem ok_X1_hold_b0 {l : Launch} {g : Gam} {b : Nat}    (M : Mem) (z : Int32 × Mem)  (hf : f_X1_hold_b0  M = some z) : V l g (wC b) m_X1_hold 0 [(0, .ref (b + 4))] [] M (some (.int z.1)) z.2 := by
  unfold f_X1_hold_b0 at hf
  refine V_aload_n (Y := m_X1_hold) (pc := 0) 0 dX1_hold_0 rfl ?_
  refine V_gi (Y := m_X1_hold) (pc := 1) 0 kX1 sC_4 (by decide +kernel) rfl tw_151 dX1_hold_1 ?_
  refine V_if_le (Y := m_X1_hold) (pc := 4) (tgt := 22) dX1_hold_4 (by decide +kernel) hf (fun hf => ?_) (fun hf => ?_)
  · refine V_iconst (Y := m_X1_hold) (pc := 22) (x := (0 : Int32)) dX1_hold_22 (by decide +kernel) ?_
    obtain rfl := Option.some.inj hf
    exact V_zret (Y := m_X1_hold) z01_0 rfl dX1_hold_23
  · refine V_aload_n (Y := m_X1_hold) (pc := 7) 0 dX1_hold_7 rfl ?_
    refine V_gi (Y := m_X1_hold) (pc := 8) 1 kX1 sC_4 (by decide +kernel) rfl tw_153 dX1_hold_8 ?_
    refine V_aload_n (Y := m_X1_hold) (pc := 11) 0 dX1_hold_11 rfl ?_
    refine V_gi (Y := m_X1_hold) (pc := 12) 2 kX1 sC_4 (by decide +kernel) rfl tw_155 dX1_hold_12 ?_
    refine V_icmp_gt (Y := m_X1_hold) (pc := 15) (tgt := 22) dX1_hold_15 (by decide +kernel) hf (fun hf => ?_) (fun hf => ?_)
    · refine V_iconst (Y := m_X1_hold) (pc := 22) (x := (0 : Int32)) dX1_hold_22 (by decide +kernel) ?_
      obtain rfl := Option.some.inj hf
      exact V_zret (Y := m_X1_hold) z01_0 rfl dX1_hold_23
    · refine V_iconst (Y := m_X1_hold) (pc := 18) (x := (1 : Int32)) dX1_hold_18 (by decide +kernel) ?_
      refine V_goto (Y := m_X1_hold) (pc := 19) (tgt := 23) dX1_hold_19 (by decide +kernel) ?_
      obtain rfl := Option.some.inj hf
      exact V_zret (Y := m_X1_hold) z01_1 rfl dX1_hold_23
def f_X1_hold  (M : Mem) : Option (Int32 × Mem) := f_X1_hold_b0  M
set_option maxRecDepth 20000 in
set_option maxHeartbeats 4000000 in
theorem ok_X1_hold {l : Launch} {g : Gam} {b : Nat} : ∀  (M : Mem) (z : Int32 × Mem), f_X1_hold  M = some z → Cn l g (wC b) m_X1_hold [.ref (b + 4)] M (some (.int z.1)) z.2 := fun  M z  hf => Cn_of (by decide +kernel) (Nat.le_of_ble_eq_true rfl) (V_sub [0] rfl (ok_X1_hold_b0  M z  hf))

abbrev m_X1_width : Mth := (yX1_width, cX1_width, 1, some .int, 1)
theorem yf_X1_width : YF m_X1_width 0 := ⟨tw_741, tw_67, by decide +kernel, by decide +kernel⟩
def f_X1_width_b0   (M : Mem) : Option (Int32 × Mem) :=
  some (((M 4 2) - (M 4 1)), M)
set_option maxRecDepth 20000 in
set_option maxHeartbeats 4000000 in
theorem ok_X1_width_b0 {l : Launch} {g : Gam} {b : Nat}    (M : Mem) (z : Int32 × Mem)  (hf : f_X1_width_b0  M = some z) : V l g (wC b) m_X1_width 0 [(0, .ref (b + 4))] [] M (some (.int z.1)) z.2 := by
  unfold f_X1_width_b0 at hf
  refine V_aload_n (Y := m_X1_width) (pc := 0) 0 dX1_width_0 rfl ?_
  refine V_gi (Y := m_X1_width) (pc := 1) 2 kX1 sC_4 (by decide +kernel) rfl tw_155 dX1_width_1 ?_
  refine V_aload_n (Y := m_X1_width) (pc := 4) 0 dX1_width_4 rfl ?_
  refine V_gi (Y := m_X1_width) (pc := 5) 1 kX1 sC_4 (by decide +kernel) rfl tw_153 dX1_width_5 ?_
  refine V_isub (Y := m_X1_width) (pc := 8) dX1_width_8 ?_
  obtain rfl := Option.some.inj hf
  exact V_iret (Y := m_X1_width) rfl dX1_width_9
def f_X1_width  (M : Mem) : Option (Int32 × Mem) := f_X1_width_b0  M
set_option maxRecDepth 20000 in
set_option maxHeartbeats 4000000 in
theorem ok_X1_width {l : Launch} {g : Gam} {b : Nat} : ∀  (M : Mem) (z : Int32 × Mem), f_X1_width  M = some z → Cn l g (wC b) m_X1_width [.ref (b + 4)] M (some (.int z.1)) z.2 := fun  M z  hf => Cn_of (by decide +kernel) (Nat.le_of_ble_eq_true rfl) (V_sub [0] rfl (ok_X1_width_b0  M z  hf))

abbrev m_J6_bitCount_0f7a4 : Mth := (yJ6_bitCount_0f7a4, cJ6_bitCount_0f7a4, 1, some .int, 1)
theorem yf_J6_bitCount_0f7a4 : YF m_J6_bitCount_0f7a4 1 := ⟨tw_752, tw_82, by decide +kernel, by decide +kernel⟩
def f_J6_bitCount_0f7a4_bc46_2  (s0 : Int32) (s1 : Int32) (M : Mem) : Option (Int32 × Mem) :=
  some (((s1 + s0) &&& (63 : Int32)), M)
set_option maxRecDepth 20000 in
set_option maxHeartbeats 4000000 in
theorem ok_J6_bitCount_0f7a4_bc46_2 {l : Launch} {g : Gam} {b : Nat}   (s0 : Int32) (s1 : Int32) (M : Mem) (z : Int32 × Mem)  (hf : f_J6_bitCount_0f7a4_bc46_2 s0 s1 M = some z) : V l g (wC b) m_J6_bitCount_0f7a4 46 [] [.int s0, .int s1] M (some (.int z.1)) z.2 := by
  unfold f_J6_bitCount_0f7a4_bc46_2 at hf
  refine V_iadd (Y := m_J6_bitCount_0f7a4) (pc := 46) dJ6_bitCount_0f7a4_46 ?_
  refine V_istore_n (Y := m_J6_bitCount_0f7a4) (pc := 47) [(0, .int (s1 + s0))] dJ6_bitCount_0f7a4_47 (by decide +kernel) rfl ?_
  refine V_iload_n (Y := m_J6_bitCount_0f7a4) (pc := 48) 0 dJ6_bitCount_0f7a4_48 rfl ?_
  refine V_bipush (Y := m_J6_bitCount_0f7a4) (pc := 49) (x := (63 : Int32)) dJ6_bitCount_0f7a4_49 (by decide +kernel) ?_
  refine V_iand (Y := m_J6_bitCount_0f7a4) (pc := 51) dJ6_bitCount_0f7a4_51 ?_
  obtain rfl := Option.some.inj hf
  exact V_iret (Y := m_J6_bitCount_0f7a4) rfl dJ6_bitCount_0f7a4_52
def f_J6_bitCount_0f7a4_bc23_1  (s0 : Int32) (M : Mem) : Option (Int32 × Mem) :=
  f_J6_bitCount_0f7a4_bc46_2  (iushr (((s0 + (iushr s0 (4 : Int32))) &&& (252645135 : Int32)) + (iushr ((s0 + (iushr s0 (4 : Int32))) &&& (252645135 : Int32)) (8 : Int32))) (16 : Int32)) (((s0 + (iushr s0 (4 : Int32))) &&& (252645135 : Int32)) + (iushr ((s0 + (iushr s0 (4 : Int32))) &&& (252645135 : Int32)) (8 : Int32))) M
set_option maxRecDepth 20000 in
set_option maxHeartbeats 4000000 in
theorem ok_J6_bitCount_0f7a4_bc23_1 {l : Launch} {g : Gam} {b : Nat}   (s0 : Int32) (M : Mem) (z : Int32 × Mem)  (hf : f_J6_bitCount_0f7a4_bc23_1 s0 M = some z) : V l g (wC b) m_J6_bitCount_0f7a4 23 [] [.int s0] M (some (.int z.1)) z.2 := by
  unfold f_J6_bitCount_0f7a4_bc23_1 at hf
  refine V_istore_n (Y := m_J6_bitCount_0f7a4) (pc := 23) [(0, .int s0)] dJ6_bitCount_0f7a4_23 (by decide +kernel) rfl ?_
  refine V_iload_n (Y := m_J6_bitCount_0f7a4) (pc := 24) 0 dJ6_bitCount_0f7a4_24 rfl ?_
  refine V_iload_n (Y := m_J6_bitCount_0f7a4) (pc := 25) 0 dJ6_bitCount_0f7a4_25 rfl ?_
  refine V_iconst (Y := m_J6_bitCount_0f7a4) (pc := 26) (x := (4 : Int32)) dJ6_bitCount_0f7a4_26 (by decide +kernel) ?_
  refine V_iushr (Y := m_J6_bitCount_0f7a4) (pc := 27) dJ6_bitCount_0f7a4_27 ?_
  refine V_iadd (Y := m_J6_bitCount_0f7a4) (pc := 28) dJ6_bitCount_0f7a4_28 ?_
  refine V_ldcw (Y := m_J6_bitCount_0f7a4) (pc := 29) (x := (252645135 : Int32)) dJ6_bitCount_0f7a4_29 tw_755 ?_
  refine V_iand (Y := m_J6_bitCount_0f7a4) (pc := 32) dJ6_bitCount_0f7a4_32 ?_
  refine V_istore_n (Y := m_J6_bitCount_0f7a4) (pc := 33) [(0, .int ((s0 + (iushr s0 (4 : Int32))) &&& (252645135 : Int32)))] dJ6_bitCount_0f7a4_33 (by decide +kernel) rfl ?_
  refine V_iload_n (Y := m_J6_bitCount_0f7a4) (pc := 34) 0 dJ6_bitCount_0f7a4_34 rfl ?_
  refine V_iload_n (Y := m_J6_bitCount_0f7a4) (pc := 35) 0 dJ6_bitCount_0f7a4_35 rfl ?_
  refine V_bipush (Y := m_J6_bitCount_0f7a4) (pc := 36) (x := (8 : Int32)) dJ6_bitCount_0f7a4_36 (by decide +kernel) ?_
  refine V_iushr (Y := m_J6_bitCount_0f7a4) (pc := 38) dJ6_bitCount_0f7a4_38 ?_
  refine V_iadd (Y := m_J6_bitCount_0f7a4) (pc := 39) dJ6_bitCount_0f7a4_39 ?_
  refine V_istore_n (Y := m_J6_bitCount_0f7a4) (pc := 40) [(0, .int (((s0 + (iushr s0 (4 : Int32))) &&& (252645135 : Int32)) + (iushr ((s0 + (iushr s0 (4 : Int32))) &&& (252645135 : Int32)) (8 : Int32))))] dJ6_bitCount_0f7a4_40 (by decide +kernel) rfl ?_
  refine V_iload_n (Y := m_J6_bitCount_0f7a4) (pc := 41) 0 dJ6_bitCount_0f7a4_41 rfl ?_
  refine V_iload_n (Y := m_J6_bitCount_0f7a4) (pc := 42) 0 dJ6_bitCount_0f7a4_42 rfl ?_
  refine V_bipush (Y := m_J6_bitCount_0f7a4) (pc := 43) (x := (16 : Int32)) dJ6_bitCount_0f7a4_43 (by decide +kernel) ?_
  refine V_iushr (Y := m_J6_bitCount_0f7a4) (pc := 45) dJ6_bitCount_0f7a4_45 ?_
  exact V_sub [] rfl (ok_J6_bitCount_0f7a4_bc46_2  (iushr (((s0 + (iushr s0 (4 : Int32))) &&& (252645135 : Int32)) + (iushr ((s0 + (iushr s0 (4 : Int32))) &&& (252645135 : Int32)) (8 : Int32))) (16 : Int32)) (((s0 + (iushr s0 (4 : Int32))) &&& (252645135 : Int32)) + (iushr ((s0 + (iushr s0 (4 : Int32))) &&& (252645135 : Int32)) (8 : Int32))) M z  hf)
def f_J6_bitCount_0f7a4_b0  (x0 : Int32) (M : Mem) : Option (Int32 × Mem) :=
  f_J6_bitCount_0f7a4_bc23_1  (((x0 - ((iushr x0 (1 : Int32)) &&& (1431655765 : Int32))) &&& (858993459 : Int32)) + ((iushr (x0 - ((iushr x0 (1 : Int32)) &&& (1431655765 : Int32))) (2 : Int32)) &&& (858993459 : Int32))) M
set_option maxRecDepth 20000 in
set_option maxHeartbeats 4000000 in
theorem ok_J6_bitCount_0f7a4_b0 {l : Launch} {g : Gam} {b : Nat}   (x0 : Int32) (M : Mem) (z : Int32 × Mem)  (hf : f_J6_bitCount_0f7a4_b0 x0 M = some z) : V l g (wC b) m_J6_bitCount_0f7a4 0 [(0, .int x0)] [] M (some (.int z.1)) z.2 := by
  unfold f_J6_bitCount_0f7a4_b0 at hf
  refine V_iload_n (Y := m_J6_bitCount_0f7a4) (pc := 0) 0 dJ6_bitCount_0f7a4_0 rfl ?_
  refine V_iload_n (Y := m_J6_bitCount_0f7a4) (pc := 1) 0 dJ6_bitCount_0f7a4_1 rfl ?_
  refine V_iconst (Y := m_J6_bitCount_0f7a4) (pc := 2) (x := (1 : Int32)) dJ6_bitCount_0f7a4_2 (by decide +kernel) ?_
  refine V_iushr (Y := m_J6_bitCount_0f7a4) (pc := 3) dJ6_bitCount_0f7a4_3 ?_
  refine V_ldcw (Y := m_J6_bitCount_0f7a4) (pc := 4) (x := (1431655765 : Int32)) dJ6_bitCount_0f7a4_4 tw_753 ?_
  refine V_iand (Y := m_J6_bitCount_0f7a4) (pc := 7) dJ6_bitCount_0f7a4_7 ?_
  refine V_isub (Y := m_J6_bitCount_0f7a4) (pc := 8) dJ6_bitCount_0f7a4_8 ?_
  refine V_istore_n (Y := m_J6_bitCount_0f7a4) (pc := 9) [(0, .int (x0 - ((iushr x0 (1 : Int32)) &&& (1431655765 : Int32))))] dJ6_bitCount_0f7a4_9 (by decide +kernel) rfl ?_
  refine V_iload_n (Y := m_J6_bitCount_0f7a4) (pc := 10) 0 dJ6_bitCount_0f7a4_10 rfl ?_
  refine V_ldcw (Y := m_J6_bitCount_0f7a4) (pc := 11) (x := (858993459 : Int32)) dJ6_bitCount_0f7a4_11 tw_754 ?_
  refine V_iand (Y := m_J6_bitCount_0f7a4) (pc := 14) dJ6_bitCount_0f7a4_14 ?_
  refine V_iload_n (Y := m_J6_bitCount_0f7a4) (pc := 15) 0 dJ6_bitCount_0f7a4_15 rfl ?_
  refine V_iconst (Y := m_J6_bitCount_0f7a4) (pc := 16) (x := (2 : Int32)) dJ6_bitCount_0f7a4_16 (by decide +kernel) ?_
  refine V_iushr (Y := m_J6_bitCount_0f7a4) (pc := 17) dJ6_bitCount_0f7a4_17 ?_
  refine V_ldcw (Y := m_J6_bitCount_0f7a4) (pc := 18) (x := (858993459 : Int32)) dJ6_bitCount_0f7a4_18 tw_754 ?_
  refine V_iand (Y := m_J6_bitCount_0f7a4) (pc := 21) dJ6_bitCount_0f7a4_21 ?_
  refine V_iadd (Y := m_J6_bitCount_0f7a4) (pc := 22) dJ6_bitCount_0f7a4_22 ?_
  exact V_sub [] rfl (ok_J6_bitCount_0f7a4_bc23_1  (((x0 - ((iushr x0 (1 : Int32)) &&& (1431655765 : Int32))) &&& (858993459 : Int32)) + ((iushr (x0 - ((iushr x0 (1 : Int32)) &&& (1431655765 : Int32))) (2 : Int32)) &&& (858993459 : Int32))) M z  hf)
def f_J6_bitCount_0f7a4 (x0 : Int32) (M : Mem) : Option (Int32 × Mem) := f_J6_bitCount_0f7a4_b0 x0 M
set_option maxRecDepth 20000 in
set_option maxHeartbeats 4000000 in
theorem ok_J6_bitCount_0f7a4 {l : Launch} {g : Gam} {b : Nat} : ∀ (x0 : Int32) (M : Mem) (z : Int32 × Mem), f_J6_bitCount_0f7a4 x0 M = some z → Cn l g (wC b) m_J6_bitCount_0f7a4 [.int x0] M (some (.int z.1)) z.2 := fun x0 M z  hf => Cn_of (by decide +kernel) (Nat.le_of_ble_eq_true rfl) (V_sub [0] rfl (ok_J6_bitCount_0f7a4_b0 x0 M z  hf))

abbrev m_X1_standOnOne : Mth := (yX1_standOnOne, cX1_standOnOne, 1, some .boolean, 2)
theorem yf_X1_standOnOne : YF m_X1_standOnOne 0 := ⟨tw_749, tw_67, by decide +kernel, by decide +kernel⟩
def f_X1_standOnOne_b0   (M : Mem) : Option (Int32 × Mem) :=
  (f_J6_bitCount_0f7a4 (M 4 4) M).bind fun q1 =>
  if q1.1 = (1 : Int32) then
    some ((1 : Int32), q1.2)
  else
    some ((0 : Int32), q1.2)
set_option maxRecDepth 20000 in
set_option maxHeartbeats 4000000 in
theorem ok_X1_standOnOne_b0 {l : Launch} {g : Gam} {b : Nat}    (M : Mem) (z : Int32 × Mem)  (hf : f_X1_standOnOne_b0  M = some z) : V l g (wC b) m_X1_standOnOne 0 [(0, .ref (b + 4))] [] M (some (.int z.1)) z.2 := by
  unfold f_X1_standOnOne_b0 at hf
  refine V_aload_n (Y := m_X1_standOnOne) (pc := 0) 0 dX1_standOnOne_0 rfl ?_
  refine V_gi (Y := m_X1_standOnOne) (pc := 1) 4 kX1 sC_4 (by decide +kernel) rfl tw_159 dX1_standOnOne_1 ?_
  obtain ⟨q1, hq1, hf⟩ := g_bind hf
  refine V_cSi (Y := m_X1_standOnOne) (pc := 4) (As := [.int (M 4 4)]) yf_J6_bitCount_0f7a4 (by decide +kernel) (ok_J6_bitCount_0f7a4 (M 4 4) M _  hq1) tw_751 tw_750 rfl rfl (Nat.le_of_ble_eq_true rfl) dX1_standOnOne_4 ?_
  refine V_iconst (Y := m_X1_standOnOne) (pc := 7) (x := (1 : Int32)) dX1_standOnOne_7 (by decide +kernel) ?_
  refine V_icmp_ne (Y := m_X1_standOnOne) (pc := 8) (tgt := 15) dX1_standOnOne_8 (by decide +kernel) hf (fun hf => ?_) (fun hf => ?_)
  · refine V_iconst (Y := m_X1_standOnOne) (pc := 15) (x := (0 : Int32)) dX1_standOnOne_15 (by decide +kernel) ?_
    obtain rfl := Option.some.inj hf
    exact V_zret (Y := m_X1_standOnOne) z01_0 rfl dX1_standOnOne_16
  · refine V_iconst (Y := m_X1_standOnOne) (pc := 11) (x := (1 : Int32)) dX1_standOnOne_11 (by decide +kernel) ?_
    refine V_goto (Y := m_X1_standOnOne) (pc := 12) (tgt := 16) dX1_standOnOne_12 (by decide +kernel) ?_
    obtain rfl := Option.some.inj hf
    exact V_zret (Y := m_X1_standOnOne) z01_1 rfl dX1_standOnOne_16
def f_X1_standOnOne  (M : Mem) : Option (Int32 × Mem) := f_X1_standOnOne_b0  M
set_option maxRecDepth 20000 in
set_option maxHeartbeats 4000000 in
theorem ok_X1_standOnOne {l : Launch} {g : Gam} {b : Nat} : ∀  (M : Mem) (z : Int32 × Mem), f_X1_standOnOne  M = some z → Cn l g (wC b) m_X1_standOnOne [.ref (b + 4)] M (some (.int z.1)) z.2 := fun  M z  hf => Cn_of (by decide +kernel) (Nat.le_of_ble_eq_true rfl) (V_sub [0] rfl (ok_X1_standOnOne_b0  M z  hf))

abbrev m_X3_keepBetter : Mth := (yX3_keepBetter, cX3_keepBetter, 3, none, 1)
theorem yf_X3_keepBetter : YF m_X3_keepBetter 2 := ⟨tw_809, tw_68, by decide +kernel, by decide +kernel⟩
def f_X3_keepBetter_b24  (x1 : Int32) (x2 : Int32) (M : Mem) : Option (Int32 × Mem) :=
  if cpyb (0 : Int32) (0 : Int32) ((mset (mset M 5 0 x1) 5 1 x2) 5 3) 5 5 = true then
  some (0, (mcpy (mset (mset M 5 0 x1) 5 1 x2) 8 (ix (0 : Int32)) 6 (ix (0 : Int32)) (ix ((mset (mset M 5 0 x1) 5 1 x2) 5 3))))
  else none
set_option maxRecDepth 20000 in
set_option maxHeartbeats 4000000 in
theorem ok_X3_keepBetter_b24 {l : Launch} {g : Gam} {b : Nat}   (x1 : Int32) (x2 : Int32) (M : Mem) (z : Int32 × Mem)  (hf : f_X3_keepBetter_b24 x1 x2 M = some z) : V l g (wC b) m_X3_keepBetter 24 [(0, .ref (b + 5)), (1, .int x1), (2, .int x2)] [] M none z.2 := by
  unfold f_X3_keepBetter_b24 at hf
  refine V_aload_n (Y := m_X3_keepBetter) (pc := 24) 0 dX3_keepBetter_24 rfl ?_
  refine V_iload_n (Y := m_X3_keepBetter) (pc := 25) 1 dX3_keepBetter_25 rfl ?_
  refine V_pi (Y := m_X3_keepBetter) (pc := 26) 0 kX3 sC_5 (by decide +kernel) rfl rfl rfl tw_177 dX3_keepBetter_26 ?_
  refine V_aload_n (Y := m_X3_keepBetter) (pc := 29) 0 dX3_keepBetter_29 rfl ?_
  refine V_iload_n (Y := m_X3_keepBetter) (pc := 30) 2 dX3_keepBetter_30 rfl ?_
  refine V_pi (Y := m_X3_keepBetter) (pc := 31) 1 kX3 sC_5 (by decide +kernel) rfl rfl rfl tw_179 dX3_keepBetter_31 ?_
  refine V_aload_n (Y := m_X3_keepBetter) (pc := 34) 0 dX3_keepBetter_34 rfl ?_
  refine V_grL (Y := m_X3_keepBetter) (pc := 35) (x := 8) 6 kX3 sC_5 (by decide +kernel) rfl rfl tw_186 dX3_keepBetter_35 ?_
  refine V_iconst (Y := m_X3_keepBetter) (pc := 38) (x := (0 : Int32)) dX3_keepBetter_38 (by decide +kernel) ?_
  refine V_aload_n (Y := m_X3_keepBetter) (pc := 39) 0 dX3_keepBetter_39 rfl ?_
  refine V_grL (Y := m_X3_keepBetter) (pc := 40) (x := 6) 2 kX3 sC_5 (by decide +kernel) rfl rfl tw_181 dX3_keepBetter_40 ?_
  refine V_iconst (Y := m_X3_keepBetter) (pc := 43) (x := (0 : Int32)) dX3_keepBetter_43 (by decide +kernel) ?_
  refine V_aload_n (Y := m_X3_keepBetter) (pc := 44) 0 dX3_keepBetter_44 rfl ?_
  refine V_gi (Y := m_X3_keepBetter) (pc := 45) 3 kX3 sC_5 (by decide +kernel) rfl tw_183 dX3_keepBetter_45 ?_
  obtain ⟨hi1, hf⟩ := g_if hf
  refine V_copy (Y := m_X3_keepBetter) (pc := 48) (by decide +kernel) j_copy tw_810 (Nat.le_of_ble_eq_true rfl) sC_8 sC_6 hi1 dX3_keepBetter_48 ?_
  obtain rfl := Option.some.inj hf
  exact V_vret (Y := m_X3_keepBetter) rfl dX3_keepBetter_51
def f_X3_keepBetter_b0  (x1 : Int32) (x2 : Int32) (M : Mem) : Option (Int32 × Mem) :=
  if (M 5 0) < x1 then
    f_X3_keepBetter_b24  x1 x2 M
  else
    if x1 = (M 5 0) then
      if (M 5 1) ≤ x2 then
        some (0, M)
      else
        f_X3_keepBetter_b24  x1 x2 M
    else
      some (0, M)
set_option maxRecDepth 20000 in
set_option maxHeartbeats 4000000 in
theorem ok_X3_keepBetter_b0 {l : Launch} {g : Gam} {b : Nat}   (x1 : Int32) (x2 : Int32) (M : Mem) (z : Int32 × Mem)  (hf : f_X3_keepBetter_b0 x1 x2 M = some z) : V l g (wC b) m_X3_keepBetter 0 [(0, .ref (b + 5)), (1, .int x1), (2, .int x2)] [] M none z.2 := by
  unfold f_X3_keepBetter_b0 at hf
  refine V_iload_n (Y := m_X3_keepBetter) (pc := 0) 1 dX3_keepBetter_0 rfl ?_
  refine V_aload_n (Y := m_X3_keepBetter) (pc := 1) 0 dX3_keepBetter_1 rfl ?_
  refine V_gi (Y := m_X3_keepBetter) (pc := 2) 0 kX3 sC_5 (by decide +kernel) rfl tw_177 dX3_keepBetter_2 ?_
  refine V_icmp_gt (Y := m_X3_keepBetter) (pc := 5) (tgt := 24) dX3_keepBetter_5 (by decide +kernel) hf (fun hf => ?_) (fun hf => ?_)
  · exact V_sub [0, 1, 2] rfl (ok_X3_keepBetter_b24  x1 x2 M z  hf)
  · refine V_iload_n (Y := m_X3_keepBetter) (pc := 8) 1 dX3_keepBetter_8 rfl ?_
    refine V_aload_n (Y := m_X3_keepBetter) (pc := 9) 0 dX3_keepBetter_9 rfl ?_
    refine V_gi (Y := m_X3_keepBetter) (pc := 10) 0 kX3 sC_5 (by decide +kernel) rfl tw_177 dX3_keepBetter_10 ?_
    refine V_icmp_ne (Y := m_X3_keepBetter) (pc := 13) (tgt := 51) dX3_keepBetter_13 (by decide +kernel) hf (fun hf => ?_) (fun hf => ?_)
    · obtain rfl := Option.some.inj hf
      exact V_vret (Y := m_X3_keepBetter) rfl dX3_keepBetter_51
    · refine V_iload_n (Y := m_X3_keepBetter) (pc := 16) 2 dX3_keepBetter_16 rfl ?_
      refine V_aload_n (Y := m_X3_keepBetter) (pc := 17) 0 dX3_keepBetter_17 rfl ?_
      refine V_gi (Y := m_X3_keepBetter) (pc := 18) 1 kX3 sC_5 (by decide +kernel) rfl tw_179 dX3_keepBetter_18 ?_
      refine V_icmp_ge (Y := m_X3_keepBetter) (pc := 21) (tgt := 51) dX3_keepBetter_21 (by decide +kernel) hf (fun hf => ?_) (fun hf => ?_)
      · obtain rfl := Option.some.inj hf
        exact V_vret (Y := m_X3_keepBetter) rfl dX3_keepBetter_51
      · exact V_sub [0, 1, 2] rfl (ok_X3_keepBetter_b24  x1 x2 M z  hf)
def f_X3_keepBetter (x1 : Int32) (x2 : Int32) (M : Mem) : Option (Int32 × Mem) := f_X3_keepBetter_b0 x1 x2 M
set_option maxRecDepth 20000 in
set_option maxHeartbeats 4000000 in
theorem ok_X3_keepBetter {l : Launch} {g : Gam} {b : Nat} : ∀ (x1 : Int32) (x2 : Int32) (M : Mem) (z : Int32 × Mem), f_X3_keepBetter x1 x2 M = some z → Cn l g (wC b) m_X3_keepBetter [.ref (b + 5), .int x1, .int x2] M none z.2 := fun x1 x2 M z  hf => Cn_of (by decide +kernel) (Nat.le_of_ble_eq_true rfl) (V_sub [0, 1, 2] rfl (ok_X3_keepBetter_b0 x1 x2 M z  hf))

abbrev m_X3_attempt (n : Nat) : Mth := (yX3_attempt, cX3_attempt, 7, none, 2 + n)
theorem yf_X3_attempt (n : Nat) : YF (m_X3_attempt n) 4 := ⟨tw_805, tw_68, (show yX3_attempt.cls ≠ "java/lang/invoke/MethodHandle" ∧ yX3_attempt.cls ≠ "java/lang/invoke/VarHandle" ∧ (parseMethodDescriptor yX3_attempt.desc).map (fun d => d.parameters.length) = some 4 by decide +kernel), Nat.le_of_ble_eq_true rfl⟩
def f_X3_attempt_b108 (rc_X3_attempt : Int32 → Int32 → Int32 → Int32 → Mem → Option (Int32 × Mem))  (x1 : Int32) (x2 : Int32) (x3 : Int32) (x4 : Int32) (M : Mem) : Option (Int32 × Mem) :=
  if ixb x1 5 = true then
  (rc_X3_attempt (x1 + (1 : Int32)) x2 x3 x4 (mset M 8 (ix x1) (-1000000005 : Int32))).bind fun q2 =>
  some (0, q2.2)
  else none
set_option maxRecDepth 20000 in
set_option maxHeartbeats 4000000 in
theorem ok_X3_attempt_b108 {l : Launch} {g : Gam} {b : Nat} (rc_X3_attempt : Int32 → Int32 → Int32 → Int32 → Mem → Option (Int32 × Mem)) {dn : Nat} (hrc_X3_attempt : ∀ (x1 : Int32) (x2 : Int32) (x3 : Int32) (x4 : Int32) (M : Mem) (z : Int32 × Mem), rc_X3_attempt x1 x2 x3 x4 M = some z → Cn l g (wC b) (m_X3_attempt dn) [.ref (b + 5), .int x1, .int x2, .int x3, .int x4] M none z.2)   (x1 : Int32) (x2 : Int32) (x3 : Int32) (x4 : Int32) (M : Mem) (z : Int32 × Mem)  (hf : f_X3_attempt_b108 rc_X3_attempt x1 x2 x3 x4 M = some z) : V l g (wC b) (m_X3_attempt (dn + 1)) 108 [(0, .ref (b + 5)), (1, .int x1), (2, .int x2), (3, .int x3), (4, .int x4)] [] M none z.2 := by
  unfold f_X3_attempt_b108 at hf
  refine V_aload_n (Y := (m_X3_attempt (dn + 1))) (pc := 108) 0 dX3_attempt_108 rfl ?_
  refine V_grL (Y := (m_X3_attempt (dn + 1))) (pc := 109) (x := 8) 6 kX3 sC_5 (by decide +kernel) rfl rfl tw_186 dX3_attempt_109 ?_
  refine V_iload_n (Y := (m_X3_attempt (dn + 1))) (pc := 112) 1 dX3_attempt_112 rfl ?_
  refine V_ldc (Y := (m_X3_attempt (dn + 1))) (pc := 113) (x := (-1000000005 : Int32)) dX3_attempt_113 tw_801 ?_
  obtain ⟨hi1, hf⟩ := g_if hf
  refine V_iast (Y := (m_X3_attempt (dn + 1))) (pc := 115) sC_8 hi1 dX3_attempt_115 ?_
  refine V_aload_n (Y := (m_X3_attempt (dn + 1))) (pc := 116) 0 dX3_attempt_116 rfl ?_
  refine V_iload_n (Y := (m_X3_attempt (dn + 1))) (pc := 117) 1 dX3_attempt_117 rfl ?_
  refine V_iconst (Y := (m_X3_attempt (dn + 1))) (pc := 118) (x := (1 : Int32)) dX3_attempt_118 (by decide +kernel) ?_
  refine V_iadd (Y := (m_X3_attempt (dn + 1))) (pc := 119) dX3_attempt_119 ?_
  refine V_iload_n (Y := (m_X3_attempt (dn + 1))) (pc := 120) 2 dX3_attempt_120 rfl ?_
  refine V_iload_n (Y := (m_X3_attempt (dn + 1))) (pc := 121) 3 dX3_attempt_121 rfl ?_
  refine V_iload (Y := (m_X3_attempt (dn + 1))) (pc := 122) 4 dX3_attempt_122 rfl ?_
  obtain ⟨q2, hq2, hf⟩ := g_bind hf
  refine V_cVv (Y := (m_X3_attempt (dn + 1))) (pc := 124) (As := [.int (x1 + (1 : Int32)), .int x2, .int x3, .int x4]) (yf_X3_attempt dn) kX3 sC_5 (by show 2 + dn < 2 + (dn + 1); omega) (hrc_X3_attempt (x1 + (1 : Int32)) x2 x3 x4 (mset M 8 (ix x1) (-1000000005 : Int32)) _  hq2) tw_804 tw_12 tw_802 rfl rfl (Nat.le_of_ble_eq_true rfl) dX3_attempt_124 ?_
  obtain rfl := Option.some.inj hf
  exact V_vret (Y := (m_X3_attempt (dn + 1))) rfl dX3_attempt_127
def f_X3_attempt_b102 (rc_X3_attempt : Int32 → Int32 → Int32 → Int32 → Mem → Option (Int32 × Mem)) (k35 : Int32 → Int32 → Int32 → Int32 → Int32 → Mem → Option (Int32 × Mem)) (x1 : Int32) (x2 : Int32) (x3 : Int32) (x4 : Int32) (x5 : Int32) (M : Mem) : Option (Int32 × Mem) :=
  k35 x1 x2 x3 x4 (x5 + (1 : Int32)) M
set_option maxRecDepth 20000 in
set_option maxHeartbeats 4000000 in
theorem ok_X3_attempt_b102 {l : Launch} {g : Gam} {b : Nat} (rc_X3_attempt : Int32 → Int32 → Int32 → Int32 → Mem → Option (Int32 × Mem)) {dn : Nat} (hrc_X3_attempt : ∀ (x1 : Int32) (x2 : Int32) (x3 : Int32) (x4 : Int32) (M : Mem) (z : Int32 × Mem), rc_X3_attempt x1 x2 x3 x4 M = some z → Cn l g (wC b) (m_X3_attempt dn) [.ref (b + 5), .int x1, .int x2, .int x3, .int x4] M none z.2) (k35 : Int32 → Int32 → Int32 → Int32 → Int32 → Mem → Option (Int32 × Mem)) (hk35 : ∀ (x1 : Int32) (x2 : Int32) (x3 : Int32) (x4 : Int32) (x5 : Int32) (M : Mem) (z : Int32 × Mem), k35 x1 x2 x3 x4 x5 M = some z → V l g (wC b) (m_X3_attempt (dn + 1)) 35 [(0, .ref (b + 5)), (1, .int x1), (2, .int x2), (3, .int x3), (4, .int x4), (5, .int x5)] [] M none z.2) (x1 : Int32) (x2 : Int32) (x3 : Int32) (x4 : Int32) (x5 : Int32) (M : Mem) (z : Int32 × Mem)  (hf : f_X3_attempt_b102 rc_X3_attempt k35 x1 x2 x3 x4 x5 M = some z) : V l g (wC b) (m_X3_attempt (dn + 1)) 102 [(0, .ref (b + 5)), (1, .int x1), (2, .int x2), (3, .int x3), (4, .int x4), (5, .int x5)] [] M none z.2 := by
  unfold f_X3_attempt_b102 at hf
  refine V_iinc (Y := (m_X3_attempt (dn + 1))) (pc := 102) (y := (x5 + (1 : Int32))) 5 [(5, .int (x5 + (1 : Int32))), (0, .ref (b + 5)), (1, .int x1), (2, .int x2), (3, .int x3), (4, .int x4)] dX3_attempt_102 rfl rfl (Nat.le_of_ble_eq_true rfl) rfl ?_
  refine V_goto (Y := (m_X3_attempt (dn + 1))) (pc := 105) (tgt := 35) dX3_attempt_105 (by decide +kernel) ?_
  exact V_sub [1, 2, 3, 4, 5, 0] rfl (hk35 x1 x2 x3 x4 (x5 + (1 : Int32)) M z  hf)
def f_X3_attempt_b35 (rc_X3_attempt : Int32 → Int32 → Int32 → Int32 → Mem → Option (Int32 × Mem))  : Nat → Int32 → Int32 → Int32 → Int32 → Int32 → Mem → Option (Int32 × Mem)
  | 0, _, _, _, _, _, _ => none
  | n + 1, x1, x2, x3, x4, x5, M =>
    if (M 5 4) ≤ x5 then
      f_X3_attempt_b108 rc_X3_attempt x1 x2 x3 x4 M
    else
      if ixb ((x1 * (5 : Int32)) + x5) 25 = true then
      if (M 7 (ix ((x1 * (5 : Int32)) + x5))) = (-1000000005 : Int32) then
        f_X3_attempt_b102 rc_X3_attempt (f_X3_attempt_b35 rc_X3_attempt n) x1 x2 x3 x4 x5 M
      else
        if (x2 &&& ((1 : Int32) <<< (x5 &&& 31))) = 0 then
          if ixb x1 5 = true then
          (rc_X3_attempt (x1 + (1 : Int32)) (x2 ||| ((1 : Int32) <<< (x5 &&& 31))) (x3 + (1 : Int32)) (x4 + (M 7 (ix ((x1 * (5 : Int32)) + x5)))) (mset M 8 (ix x1) x5)).bind fun q3 =>
          f_X3_attempt_b102 rc_X3_attempt (f_X3_attempt_b35 rc_X3_attempt n) x1 x2 x3 x4 x5 q3.2
          else none
        else
          f_X3_attempt_b102 rc_X3_attempt (f_X3_attempt_b35 rc_X3_attempt n) x1 x2 x3 x4 x5 M
      else none
set_option maxRecDepth 20000 in
set_option maxHeartbeats 4000000 in
theorem ok_X3_attempt_b35 {l : Launch} {g : Gam} {b : Nat} (rc_X3_attempt : Int32 → Int32 → Int32 → Int32 → Mem → Option (Int32 × Mem)) {dn : Nat} (hrc_X3_attempt : ∀ (x1 : Int32) (x2 : Int32) (x3 : Int32) (x4 : Int32) (M : Mem) (z : Int32 × Mem), rc_X3_attempt x1 x2 x3 x4 M = some z → Cn l g (wC b) (m_X3_attempt dn) [.ref (b + 5), .int x1, .int x2, .int x3, .int x4] M none z.2)   : ∀ (n : Nat) (x1 : Int32) (x2 : Int32) (x3 : Int32) (x4 : Int32) (x5 : Int32) (M : Mem) (z : Int32 × Mem), f_X3_attempt_b35 rc_X3_attempt n x1 x2 x3 x4 x5 M = some z → V l g (wC b) (m_X3_attempt (dn + 1)) 35 [(0, .ref (b + 5)), (1, .int x1), (2, .int x2), (3, .int x3), (4, .int x4), (5, .int x5)] [] M none z.2 := by
  intro n
  induction n with
  | zero =>
    intro x1 x2 x3 x4 x5 M z  hf
    cases hf
  | succ n ih =>
    intro x1 x2 x3 x4 x5 M z  hf
    rw [f_X3_attempt_b35] at hf
    refine V_iload (Y := (m_X3_attempt (dn + 1))) (pc := 35) 5 dX3_attempt_35 rfl ?_
    refine V_aload_n (Y := (m_X3_attempt (dn + 1))) (pc := 37) 0 dX3_attempt_37 rfl ?_
    refine V_gi (Y := (m_X3_attempt (dn + 1))) (pc := 38) 4 kX3 sC_5 (by decide +kernel) rfl tw_184 dX3_attempt_38 ?_
    refine V_icmp_ge (Y := (m_X3_attempt (dn + 1))) (pc := 41) (tgt := 108) dX3_attempt_41 (by decide +kernel) hf (fun hf => ?_) (fun hf => ?_)
    · exact V_sub [0, 1, 2, 3, 4] rfl (ok_X3_attempt_b108 rc_X3_attempt hrc_X3_attempt x1 x2 x3 x4 M z  hf)
    · refine V_aload_n (Y := (m_X3_attempt (dn + 1))) (pc := 44) 0 dX3_attempt_44 rfl ?_
      refine V_grL (Y := (m_X3_attempt (dn + 1))) (pc := 45) (x := 7) 5 kX3 sC_5 (by decide +kernel) rfl rfl tw_185 dX3_attempt_45 ?_
      refine V_iload_n (Y := (m_X3_attempt (dn + 1))) (pc := 48) 1 dX3_attempt_48 rfl ?_
      refine V_iconst (Y := (m_X3_attempt (dn + 1))) (pc := 49) (x := (5 : Int32)) dX3_attempt_49 (by decide +kernel) ?_
      refine V_imul (Y := (m_X3_attempt (dn + 1))) (pc := 50) dX3_attempt_50 ?_
      refine V_iload (Y := (m_X3_attempt (dn + 1))) (pc := 51) 5 dX3_attempt_51 rfl ?_
      refine V_iadd (Y := (m_X3_attempt (dn + 1))) (pc := 53) dX3_attempt_53 ?_
      obtain ⟨hi1, hf⟩ := g_if hf
      refine V_iald (Y := (m_X3_attempt (dn + 1))) (pc := 54) sC_7 hi1 dX3_attempt_54 ?_
      refine V_istore (Y := (m_X3_attempt (dn + 1))) (pc := 55) [(6, .int (M 7 (ix ((x1 * (5 : Int32)) + x5)))), (0, .ref (b + 5)), (1, .int x1), (2, .int x2), (3, .int x3), (4, .int x4), (5, .int x5)] dX3_attempt_55 (Nat.le_of_ble_eq_true rfl) rfl ?_
      refine V_iload (Y := (m_X3_attempt (dn + 1))) (pc := 57) 0 dX3_attempt_57 rfl ?_
      refine V_ldc (Y := (m_X3_attempt (dn + 1))) (pc := 59) (x := (-1000000005 : Int32)) dX3_attempt_59 tw_801 ?_
      refine V_icmp_eq (Y := (m_X3_attempt (dn + 1))) (pc := 61) (tgt := 102) dX3_attempt_61 (by decide +kernel) hf (fun hf => ?_) (fun hf => ?_)
      · exact V_sub [1, 2, 3, 4, 5, 6] rfl (ok_X3_attempt_b102 rc_X3_attempt hrc_X3_attempt (f_X3_attempt_b35 rc_X3_attempt n) ih x1 x2 x3 x4 x5 M z  hf)
      · refine V_iload_n (Y := (m_X3_attempt (dn + 1))) (pc := 64) 3 dX3_attempt_64 rfl ?_
        refine V_iconst (Y := (m_X3_attempt (dn + 1))) (pc := 65) (x := (1 : Int32)) dX3_attempt_65 (by decide +kernel) ?_
        refine V_iload (Y := (m_X3_attempt (dn + 1))) (pc := 66) 6 dX3_attempt_66 rfl ?_
        refine V_ishl (Y := (m_X3_attempt (dn + 1))) (pc := 68) dX3_attempt_68 ?_
        refine V_iand (Y := (m_X3_attempt (dn + 1))) (pc := 69) dX3_attempt_69 ?_
        refine V_if_ne (Y := (m_X3_attempt (dn + 1))) (pc := 70) (tgt := 102) dX3_attempt_70 (by decide +kernel) hf (fun hf => ?_) (fun hf => ?_)
        · exact V_sub [1, 2, 3, 4, 5, 6] rfl (ok_X3_attempt_b102 rc_X3_attempt hrc_X3_attempt (f_X3_attempt_b35 rc_X3_attempt n) ih x1 x2 x3 x4 x5 M z  hf)
        · refine V_aload_n (Y := (m_X3_attempt (dn + 1))) (pc := 73) 1 dX3_attempt_73 rfl ?_
          refine V_grL (Y := (m_X3_attempt (dn + 1))) (pc := 74) (x := 8) 6 kX3 sC_5 (by decide +kernel) rfl rfl tw_186 dX3_attempt_74 ?_
          refine V_iload_n (Y := (m_X3_attempt (dn + 1))) (pc := 77) 2 dX3_attempt_77 rfl ?_
          refine V_iload (Y := (m_X3_attempt (dn + 1))) (pc := 78) 6 dX3_attempt_78 rfl ?_
          obtain ⟨hi2, hf⟩ := g_if hf
          refine V_iast (Y := (m_X3_attempt (dn + 1))) (pc := 80) sC_8 hi2 dX3_attempt_80 ?_
          refine V_aload_n (Y := (m_X3_attempt (dn + 1))) (pc := 81) 1 dX3_attempt_81 rfl ?_
          refine V_iload_n (Y := (m_X3_attempt (dn + 1))) (pc := 82) 2 dX3_attempt_82 rfl ?_
          refine V_iconst (Y := (m_X3_attempt (dn + 1))) (pc := 83) (x := (1 : Int32)) dX3_attempt_83 (by decide +kernel) ?_
          refine V_iadd (Y := (m_X3_attempt (dn + 1))) (pc := 84) dX3_attempt_84 ?_
          refine V_iload_n (Y := (m_X3_attempt (dn + 1))) (pc := 85) 3 dX3_attempt_85 rfl ?_
          refine V_iconst (Y := (m_X3_attempt (dn + 1))) (pc := 86) (x := (1 : Int32)) dX3_attempt_86 (by decide +kernel) ?_
          refine V_iload (Y := (m_X3_attempt (dn + 1))) (pc := 87) 6 dX3_attempt_87 rfl ?_
          refine V_ishl (Y := (m_X3_attempt (dn + 1))) (pc := 89) dX3_attempt_89 ?_
          refine V_ior (Y := (m_X3_attempt (dn + 1))) (pc := 90) dX3_attempt_90 ?_
          refine V_iload_n (Y := (m_X3_attempt (dn + 1))) (pc := 91) 4 dX3_attempt_91 rfl ?_
          refine V_iconst (Y := (m_X3_attempt (dn + 1))) (pc := 92) (x := (1 : Int32)) dX3_attempt_92 (by decide +kernel) ?_
          refine V_iadd (Y := (m_X3_attempt (dn + 1))) (pc := 93) dX3_attempt_93 ?_
          refine V_iload (Y := (m_X3_attempt (dn + 1))) (pc := 94) 5 dX3_attempt_94 rfl ?_
          refine V_iload (Y := (m_X3_attempt (dn + 1))) (pc := 96) 0 dX3_attempt_96 rfl ?_
          refine V_iadd (Y := (m_X3_attempt (dn + 1))) (pc := 98) dX3_attempt_98 ?_
          obtain ⟨q3, hq3, hf⟩ := g_bind hf
          refine V_cVv (Y := (m_X3_attempt (dn + 1))) (pc := 99) (As := [.int (x1 + (1 : Int32)), .int (x2 ||| ((1 : Int32) <<< (x5 &&& 31))), .int (x3 + (1 : Int32)), .int (x4 + (M 7 (ix ((x1 * (5 : Int32)) + x5))))]) (yf_X3_attempt dn) kX3 sC_5 (by show 2 + dn < 2 + (dn + 1); omega) (hrc_X3_attempt (x1 + (1 : Int32)) (x2 ||| ((1 : Int32) <<< (x5 &&& 31))) (x3 + (1 : Int32)) (x4 + (M 7 (ix ((x1 * (5 : Int32)) + x5)))) (mset M 8 (ix x1) x5) _  hq3) tw_804 tw_12 tw_802 rfl rfl (Nat.le_of_ble_eq_true rfl) dX3_attempt_99 ?_
          exact V_sub [1, 2, 3, 4, 5, 6] rfl (ok_X3_attempt_b102 rc_X3_attempt hrc_X3_attempt (f_X3_attempt_b35 rc_X3_attempt n) ih x1 x2 x3 x4 x5 q3.2 z  hf)
def f_X3_attempt_b0 (rc_X3_attempt : Int32 → Int32 → Int32 → Int32 → Mem → Option (Int32 × Mem))  (x1 : Int32) (x2 : Int32) (x3 : Int32) (x4 : Int32) (M : Mem) : Option (Int32 × Mem) :=
  if (M 5 0) ≤ ((x3 + (M 5 3)) - x1) then
    if x1 < (M 5 3) then
      f_X3_attempt_b35 rc_X3_attempt FU x1 x2 x3 x4 (0 : Int32) M
    else
      (f_X3_keepBetter x3 x4 M).bind fun q1 =>
      some (0, q1.2)
  else
    some (0, M)
set_option maxRecDepth 20000 in
set_option maxHeartbeats 4000000 in
theorem ok_X3_attempt_b0 {l : Launch} {g : Gam} {b : Nat} (rc_X3_attempt : Int32 → Int32 → Int32 → Int32 → Mem → Option (Int32 × Mem)) {dn : Nat} (hrc_X3_attempt : ∀ (x1 : Int32) (x2 : Int32) (x3 : Int32) (x4 : Int32) (M : Mem) (z : Int32 × Mem), rc_X3_attempt x1 x2 x3 x4 M = some z → Cn l g (wC b) (m_X3_attempt dn) [.ref (b + 5), .int x1, .int x2, .int x3, .int x4] M none z.2)   (x1 : Int32) (x2 : Int32) (x3 : Int32) (x4 : Int32) (M : Mem) (z : Int32 × Mem)  (hf : f_X3_attempt_b0 rc_X3_attempt x1 x2 x3 x4 M = some z) : V l g (wC b) (m_X3_attempt (dn + 1)) 0 [(0, .ref (b + 5)), (1, .int x1), (2, .int x2), (3, .int x3), (4, .int x4)] [] M none z.2 := by
  unfold f_X3_attempt_b0 at hf
  refine V_iload_n (Y := (m_X3_attempt (dn + 1))) (pc := 0) 3 dX3_attempt_0 rfl ?_
  refine V_aload_n (Y := (m_X3_attempt (dn + 1))) (pc := 1) 0 dX3_attempt_1 rfl ?_
  refine V_gi (Y := (m_X3_attempt (dn + 1))) (pc := 2) 3 kX3 sC_5 (by decide +kernel) rfl tw_183 dX3_attempt_2 ?_
  refine V_iadd (Y := (m_X3_attempt (dn + 1))) (pc := 5) dX3_attempt_5 ?_
  refine V_iload_n (Y := (m_X3_attempt (dn + 1))) (pc := 6) 1 dX3_attempt_6 rfl ?_
  refine V_isub (Y := (m_X3_attempt (dn + 1))) (pc := 7) dX3_attempt_7 ?_
  refine V_aload_n (Y := (m_X3_attempt (dn + 1))) (pc := 8) 0 dX3_attempt_8 rfl ?_
  refine V_gi (Y := (m_X3_attempt (dn + 1))) (pc := 9) 0 kX3 sC_5 (by decide +kernel) rfl tw_177 dX3_attempt_9 ?_
  refine V_icmp_ge (Y := (m_X3_attempt (dn + 1))) (pc := 12) (tgt := 16) dX3_attempt_12 (by decide +kernel) hf (fun hf => ?_) (fun hf => ?_)
  · refine V_iload_n (Y := (m_X3_attempt (dn + 1))) (pc := 16) 1 dX3_attempt_16 rfl ?_
    refine V_aload_n (Y := (m_X3_attempt (dn + 1))) (pc := 17) 0 dX3_attempt_17 rfl ?_
    refine V_gi (Y := (m_X3_attempt (dn + 1))) (pc := 18) 3 kX3 sC_5 (by decide +kernel) rfl tw_183 dX3_attempt_18 ?_
    refine V_icmp_lt (Y := (m_X3_attempt (dn + 1))) (pc := 21) (tgt := 32) dX3_attempt_21 (by decide +kernel) hf (fun hf => ?_) (fun hf => ?_)
    · refine V_iconst (Y := (m_X3_attempt (dn + 1))) (pc := 32) (x := (0 : Int32)) dX3_attempt_32 (by decide +kernel) ?_
      refine V_istore (Y := (m_X3_attempt (dn + 1))) (pc := 33) [(5, .int (0 : Int32)), (0, .ref (b + 5)), (1, .int x1), (2, .int x2), (3, .int x3), (4, .int x4)] dX3_attempt_33 (Nat.le_of_ble_eq_true rfl) rfl ?_
      exact V_sub [1, 2, 3, 4, 5, 0] rfl (ok_X3_attempt_b35 rc_X3_attempt hrc_X3_attempt FU x1 x2 x3 x4 (0 : Int32) M z  hf)
    · refine V_aload_n (Y := (m_X3_attempt (dn + 1))) (pc := 24) 0 dX3_attempt_24 rfl ?_
      refine V_iload_n (Y := (m_X3_attempt (dn + 1))) (pc := 25) 3 dX3_attempt_25 rfl ?_
      refine V_iload (Y := (m_X3_attempt (dn + 1))) (pc := 26) 4 dX3_attempt_26 rfl ?_
      obtain ⟨q1, hq1, hf⟩ := g_bind hf
      refine V_cVv (Y := (m_X3_attempt (dn + 1))) (pc := 28) (As := [.int x3, .int x4]) yf_X3_keepBetter kX3 sC_5 (by show 1 < 2 + (dn + 1); omega) (ok_X3_keepBetter x3 x4 M _  hq1) tw_808 tw_13 tw_806 rfl rfl (Nat.le_of_ble_eq_true rfl) dX3_attempt_28 ?_
      obtain rfl := Option.some.inj hf
      exact V_vret (Y := (m_X3_attempt (dn + 1))) rfl dX3_attempt_31
  · obtain rfl := Option.some.inj hf
    exact V_vret (Y := (m_X3_attempt (dn + 1))) rfl dX3_attempt_15
set_option maxRecDepth 20000 in
set_option maxHeartbeats 4000000 in
def G_X3_attempt : Nat → (Int32 → Int32 → Int32 → Int32 → Mem → Option (Int32 × Mem))
  | 0 => (fun _ _ _ _ _ => none)
  | n + 1 => (f_X3_attempt_b0 ((G_X3_attempt n)))
def f_X3_attempt (n : Nat) : (Int32 → Int32 → Int32 → Int32 → Mem → Option (Int32 × Mem)) := (G_X3_attempt n)
theorem ok_G_X3_attempt {l : Launch} {g : Gam} {b : Nat} : ∀ n : Nat, (∀ (x1 : Int32) (x2 : Int32) (x3 : Int32) (x4 : Int32) (M : Mem) (z : Int32 × Mem), (G_X3_attempt n) x1 x2 x3 x4 M = some z → Cn l g (wC b) (m_X3_attempt n) [.ref (b + 5), .int x1, .int x2, .int x3, .int x4] M none z.2) := by
  intro n
  induction n with
  | zero => exact (fun _ _ _ _ _ _ hf => by cases hf)
  | succ n ih =>
    exact fun x1 x2 x3 x4 M z  hf => Cn_of (show plainName yX3_attempt.cls = true by decide +kernel) (Nat.le_of_ble_eq_true rfl) (ok_X3_attempt_b0 _ (ih) x1 x2 x3 x4 M z  hf)
theorem ok_X3_attempt {l : Launch} {g : Gam} {b : Nat} (n : Nat) : ∀ (x1 : Int32) (x2 : Int32) (x3 : Int32) (x4 : Int32) (M : Mem) (z : Int32 × Mem), f_X3_attempt n x1 x2 x3 x4 M = some z → Cn l g (wC b) (m_X3_attempt n) [.ref (b + 5), .int x1, .int x2, .int x3, .int x4] M none z.2 := (ok_G_X3_attempt n)

abbrev m_X3_find : Mth := (yX3_find, cX3_find, 10, none, 123)
theorem yf_X3_find : YF m_X3_find 3 := ⟨tw_791, tw_68, by decide +kernel, by decide +kernel⟩
def f_X3_find_b200 (k152 : Nat → Int32 → Int32 → Mem → Option (Int32 × Mem)) (a1 : Nat) (x3 : Int32) (x4 : Int32) (s0 : Int32) (s1 : Int32) (M : Mem) : Option (Int32 × Mem) :=
  if ixb s1 5 = true then
  k152 a1 x3 (x4 + (1 : Int32)) (mset M 6 (ix s1) s0)
  else none
set_option maxRecDepth 20000 in
set_option maxHeartbeats 4000000 in
theorem ok_X3_find_b200 {l : Launch} {g : Gam} {b : Nat} (k152 : Nat → Int32 → Int32 → Mem → Option (Int32 × Mem)) (hk152 : ∀ (a1 : Nat) (x3 : Int32) (x4 : Int32) (M : Mem) (z : Int32 × Mem), shC[a1]? = some (1, 0) → k152 a1 x3 x4 M = some z → V l g (wC b) m_X3_find 152 [(0, .ref (b + 5)), (1, .ref (b + a1)), (3, .int x3), (4, .int x4)] [] M none z.2) (a1 : Nat) (x3 : Int32) (x4 : Int32) (s0 : Int32) (s1 : Int32) (M : Mem) (z : Int32 × Mem) (ha1 : shC[a1]? = some (1, 0)) (hf : f_X3_find_b200 k152 a1 x3 x4 s0 s1 M = some z) : V l g (wC b) m_X3_find 200 [(0, .ref (b + 5)), (1, .ref (b + a1)), (3, .int x3), (4, .int x4)] [.int s0, .int s1, .ref (b + 6)] M none z.2 := by
  unfold f_X3_find_b200 at hf
  obtain ⟨hi1, hf⟩ := g_if hf
  refine V_iast (Y := m_X3_find) (pc := 200) sC_6 hi1 dX3_find_200 ?_
  refine V_iinc (Y := m_X3_find) (pc := 201) (y := (x4 + (1 : Int32))) 3 [(4, .int (x4 + (1 : Int32))), (0, .ref (b + 5)), (1, .ref (b + a1)), (3, .int x3)] dX3_find_201 rfl rfl (by decide +kernel) rfl ?_
  refine V_goto (Y := m_X3_find) (pc := 204) (tgt := 152) dX3_find_204 (by decide +kernel) ?_
  exact V_sub [1, 2, 3, 0] rfl (hk152 a1 x3 (x4 + (1 : Int32)) (mset M 6 (ix s1) s0) z ha1 hf)
def f_X3_find_b152  : Nat → Nat → Int32 → Int32 → Mem → Option (Int32 × Mem)
  | 0, _, _, _, _ => none
  | n + 1, a1, x3, x4, M =>
    if (M 5 3) ≤ x4 then
      some (0, M)
    else
      if ixb x4 5 = true then
      if (M 6 (ix x4)) = (-1000000005 : Int32) then
        f_X3_find_b200 (f_X3_find_b152  n) a1 x3 x4 (-1000000005 : Int32) x4 M
      else
        if ixb x4 5 = true then
        if ixb ((x3 * (5 : Int32)) + (M 6 (ix x4))) 15 = true then
        f_X3_find_b200 (f_X3_find_b152  n) a1 x3 x4 (M (rfC a1 3) (ix ((x3 * (5 : Int32)) + (M 6 (ix x4))))) x4 M
        else none
        else none
      else none
set_option maxRecDepth 20000 in
set_option maxHeartbeats 4000000 in
theorem ok_X3_find_b152 {l : Launch} {g : Gam} {b : Nat}   : ∀ (n : Nat) (a1 : Nat) (x3 : Int32) (x4 : Int32) (M : Mem) (z : Int32 × Mem), (ha1 : shC[a1]? = some (1, 0)) → f_X3_find_b152  n a1 x3 x4 M = some z → V l g (wC b) m_X3_find 152 [(0, .ref (b + 5)), (1, .ref (b + a1)), (3, .int x3), (4, .int x4)] [] M none z.2 := by
  intro n
  induction n with
  | zero =>
    intro a1 x3 x4 M z ha1 hf
    cases hf
  | succ n ih =>
    intro a1 x3 x4 M z ha1 hf
    rw [f_X3_find_b152] at hf
    refine V_iload (Y := m_X3_find) (pc := 152) 3 dX3_find_152 rfl ?_
    refine V_aload_n (Y := m_X3_find) (pc := 154) 0 dX3_find_154 rfl ?_
    refine V_gi (Y := m_X3_find) (pc := 155) 3 kX3 sC_5 (by decide +kernel) rfl tw_183 dX3_find_155 ?_
    refine V_icmp_ge (Y := m_X3_find) (pc := 158) (tgt := 207) dX3_find_158 (by decide +kernel) hf (fun hf => ?_) (fun hf => ?_)
    · obtain rfl := Option.some.inj hf
      exact V_vret (Y := m_X3_find) rfl dX3_find_207
    · refine V_aload_n (Y := m_X3_find) (pc := 161) 0 dX3_find_161 rfl ?_
      refine V_grL (Y := m_X3_find) (pc := 162) (x := 6) 2 kX3 sC_5 (by decide +kernel) rfl rfl tw_181 dX3_find_162 ?_
      refine V_iload (Y := m_X3_find) (pc := 165) 3 dX3_find_165 rfl ?_
      refine V_aload_n (Y := m_X3_find) (pc := 167) 0 dX3_find_167 rfl ?_
      refine V_grL (Y := m_X3_find) (pc := 168) (x := 6) 2 kX3 sC_5 (by decide +kernel) rfl rfl tw_181 dX3_find_168 ?_
      refine V_iload (Y := m_X3_find) (pc := 171) 3 dX3_find_171 rfl ?_
      obtain ⟨hi1, hf⟩ := g_if hf
      refine V_iald (Y := m_X3_find) (pc := 173) sC_6 hi1 dX3_find_173 ?_
      refine V_ldc (Y := m_X3_find) (pc := 174) (x := (-1000000005 : Int32)) dX3_find_174 tw_801 ?_
      refine V_icmp_ne (Y := m_X3_find) (pc := 176) (tgt := 184) dX3_find_176 (by decide +kernel) hf (fun hf => ?_) (fun hf => ?_)
      · refine V_aload_n (Y := m_X3_find) (pc := 184) 1 dX3_find_184 rfl ?_
        refine V_gr (Y := m_X3_find) (pc := 185) 3 kX0 ha1 (by decide +kernel) rfl tw_337 dX3_find_185 ?_
        refine V_iload_n (Y := m_X3_find) (pc := 188) 2 dX3_find_188 rfl ?_
        refine V_iconst (Y := m_X3_find) (pc := 189) (x := (5 : Int32)) dX3_find_189 (by decide +kernel) ?_
        refine V_imul (Y := m_X3_find) (pc := 190) dX3_find_190 ?_
        refine V_aload_n (Y := m_X3_find) (pc := 191) 0 dX3_find_191 rfl ?_
        refine V_grL (Y := m_X3_find) (pc := 192) (x := 6) 2 kX3 sC_5 (by decide +kernel) rfl rfl tw_181 dX3_find_192 ?_
        refine V_iload (Y := m_X3_find) (pc := 195) 3 dX3_find_195 rfl ?_
        obtain ⟨hi2, hf⟩ := g_if hf
        refine V_iald (Y := m_X3_find) (pc := 197) sC_6 hi2 dX3_find_197 ?_
        refine V_iadd (Y := m_X3_find) (pc := 198) dX3_find_198 ?_
        obtain ⟨hi3, hf⟩ := g_if hf
        refine V_iald (Y := m_X3_find) (pc := 199) (wtC.1 _ _ ha1 3 _ rfl) hi3 dX3_find_199 ?_
        exact V_sub [0, 1, 2, 3] rfl (ok_X3_find_b200 (f_X3_find_b152  n) ih a1 x3 x4 (M (rfC a1 3) (ix ((x3 * (5 : Int32)) + (M 6 (ix x4))))) x4 M z ha1 hf)
      · refine V_ldc (Y := m_X3_find) (pc := 179) (x := (-1000000005 : Int32)) dX3_find_179 tw_801 ?_
        refine V_goto (Y := m_X3_find) (pc := 181) (tgt := 200) dX3_find_181 (by decide +kernel) ?_
        exact V_sub [0, 1, 2, 3] rfl (ok_X3_find_b200 (f_X3_find_b152  n) ih a1 x3 x4 (-1000000005 : Int32) x4 M z ha1 hf)
def f_X3_find_b131  (a1 : Nat) (x3 : Int32) (M : Mem) : Option (Int32 × Mem) :=
  (f_X3_attempt FR (0 : Int32) (0 : Int32) (0 : Int32) (0 : Int32) (mset (mset M 5 0 (-1 : Int32)) 5 1 (0 : Int32))).bind fun q1 =>
  f_X3_find_b152  FU a1 x3 (0 : Int32) q1.2
set_option maxRecDepth 20000 in
set_option maxHeartbeats 4000000 in
theorem ok_X3_find_b131 {l : Launch} {g : Gam} {b : Nat}   (a1 : Nat) (x3 : Int32) (M : Mem) (z : Int32 × Mem) (ha1 : shC[a1]? = some (1, 0)) (hf : f_X3_find_b131 a1 x3 M = some z) : V l g (wC b) m_X3_find 131 [(0, .ref (b + 5)), (1, .ref (b + a1)), (3, .int x3)] [] M none z.2 := by
  unfold f_X3_find_b131 at hf
  refine V_aload_n (Y := m_X3_find) (pc := 131) 0 dX3_find_131 rfl ?_
  refine V_iconst (Y := m_X3_find) (pc := 132) (x := (-1 : Int32)) dX3_find_132 (by decide +kernel) ?_
  refine V_pi (Y := m_X3_find) (pc := 133) 0 kX3 sC_5 (by decide +kernel) rfl rfl rfl tw_177 dX3_find_133 ?_
  refine V_aload_n (Y := m_X3_find) (pc := 136) 0 dX3_find_136 rfl ?_
  refine V_iconst (Y := m_X3_find) (pc := 137) (x := (0 : Int32)) dX3_find_137 (by decide +kernel) ?_
  refine V_pi (Y := m_X3_find) (pc := 138) 1 kX3 sC_5 (by decide +kernel) rfl rfl rfl tw_179 dX3_find_138 ?_
  refine V_aload_n (Y := m_X3_find) (pc := 141) 0 dX3_find_141 rfl ?_
  refine V_iconst (Y := m_X3_find) (pc := 142) (x := (0 : Int32)) dX3_find_142 (by decide +kernel) ?_
  refine V_iconst (Y := m_X3_find) (pc := 143) (x := (0 : Int32)) dX3_find_143 (by decide +kernel) ?_
  refine V_iconst (Y := m_X3_find) (pc := 144) (x := (0 : Int32)) dX3_find_144 (by decide +kernel) ?_
  refine V_iconst (Y := m_X3_find) (pc := 145) (x := (0 : Int32)) dX3_find_145 (by decide +kernel) ?_
  obtain ⟨q1, hq1, hf⟩ := g_bind hf
  refine V_cVv (Y := m_X3_find) (pc := 146) (As := [.int (0 : Int32), .int (0 : Int32), .int (0 : Int32), .int (0 : Int32)]) (yf_X3_attempt FR) kX3 sC_5 (by decide +kernel) (ok_X3_attempt FR (0 : Int32) (0 : Int32) (0 : Int32) (0 : Int32) (mset (mset M 5 0 (-1 : Int32)) 5 1 (0 : Int32)) _  hq1) tw_804 tw_12 tw_802 rfl rfl (Nat.le_of_ble_eq_true rfl) dX3_find_146 ?_
  refine V_iconst (Y := m_X3_find) (pc := 149) (x := (0 : Int32)) dX3_find_149 (by decide +kernel) ?_
  refine V_istore (Y := m_X3_find) (pc := 150) [(4, .int (0 : Int32)), (0, .ref (b + 5)), (1, .ref (b + a1)), (3, .int x3)] dX3_find_150 (by decide +kernel) rfl ?_
  exact V_sub [1, 2, 3, 0] rfl (ok_X3_find_b152  FU a1 x3 (0 : Int32) q1.2 z ha1 hf)
def f_X3_find_b125 (k23 : Nat → Int32 → Int32 → Int32 → Mem → Option (Int32 × Mem)) (a1 : Nat) (x2 : Int32) (x3 : Int32) (x4 : Int32) (M : Mem) : Option (Int32 × Mem) :=
  k23 a1 x2 x3 (x4 + (1 : Int32)) M
set_option maxRecDepth 20000 in
set_option maxHeartbeats 4000000 in
theorem ok_X3_find_b125 {l : Launch} {g : Gam} {b : Nat} (k23 : Nat → Int32 → Int32 → Int32 → Mem → Option (Int32 × Mem)) (hk23 : ∀ (a1 : Nat) (x2 : Int32) (x3 : Int32) (x4 : Int32) (M : Mem) (z : Int32 × Mem), shC[a1]? = some (1, 0) → k23 a1 x2 x3 x4 M = some z → V l g (wC b) m_X3_find 23 [(0, .ref (b + 5)), (1, .ref (b + a1)), (2, .int x2), (3, .int x3), (4, .int x4)] [] M none z.2) (a1 : Nat) (x2 : Int32) (x3 : Int32) (x4 : Int32) (M : Mem) (z : Int32 × Mem) (ha1 : shC[a1]? = some (1, 0)) (hf : f_X3_find_b125 k23 a1 x2 x3 x4 M = some z) : V l g (wC b) m_X3_find 125 [(0, .ref (b + 5)), (1, .ref (b + a1)), (2, .int x2), (3, .int x3), (4, .int x4)] [] M none z.2 := by
  unfold f_X3_find_b125 at hf
  refine V_iinc (Y := m_X3_find) (pc := 125) (y := (x4 + (1 : Int32))) 4 [(4, .int (x4 + (1 : Int32))), (0, .ref (b + 5)), (1, .ref (b + a1)), (2, .int x2), (3, .int x3)] dX3_find_125 rfl rfl (by decide +kernel) rfl ?_
  refine V_goto (Y := m_X3_find) (pc := 128) (tgt := 23) dX3_find_128 (by decide +kernel) ?_
  exact V_sub [1, 2, 3, 4, 0] rfl (hk23 a1 x2 x3 (x4 + (1 : Int32)) M z ha1 hf)
def f_X3_find_b118 (k23 : Nat → Int32 → Int32 → Int32 → Mem → Option (Int32 × Mem)) (k52 : Nat → Int32 → Int32 → Int32 → Nat → Int32 → Int32 → Mem → Option (Int32 × Mem)) (a1 : Nat) (x2 : Int32) (x3 : Int32) (x4 : Int32) (a5 : Nat) (x6 : Int32) (x7 : Int32) (s0 : Int32) (s1 : Int32) (M : Mem) : Option (Int32 × Mem) :=
  if ixb s1 25 = true then
  k52 a1 x2 x3 x4 a5 x6 (x7 + (1 : Int32)) (mset M 7 (ix s1) s0)
  else none
set_option maxRecDepth 20000 in
set_option maxHeartbeats 4000000 in
theorem ok_X3_find_b118 {l : Launch} {g : Gam} {b : Nat} (k23 : Nat → Int32 → Int32 → Int32 → Mem → Option (Int32 × Mem)) (k52 : Nat → Int32 → Int32 → Int32 → Nat → Int32 → Int32 → Mem → Option (Int32 × Mem)) (hk23 : ∀ (a1 : Nat) (x2 : Int32) (x3 : Int32) (x4 : Int32) (M : Mem) (z : Int32 × Mem), shC[a1]? = some (1, 0) → k23 a1 x2 x3 x4 M = some z → V l g (wC b) m_X3_find 23 [(0, .ref (b + 5)), (1, .ref (b + a1)), (2, .int x2), (3, .int x3), (4, .int x4)] [] M none z.2) (hk52 : ∀ (a1 : Nat) (x2 : Int32) (x3 : Int32) (x4 : Int32) (a5 : Nat) (x6 : Int32) (x7 : Int32) (M : Mem) (z : Int32 × Mem), shC[a1]? = some (1, 0) → shC[a5]? = some (1, 2) → k52 a1 x2 x3 x4 a5 x6 x7 M = some z → V l g (wC b) m_X3_find 52 [(0, .ref (b + 5)), (1, .ref (b + a1)), (2, .int x2), (3, .int x3), (4, .int x4), (5, .ref (b + a5)), (6, .int x6), (7, .int x7)] [] M none z.2) (a1 : Nat) (x2 : Int32) (x3 : Int32) (x4 : Int32) (a5 : Nat) (x6 : Int32) (x7 : Int32) (s0 : Int32) (s1 : Int32) (M : Mem) (z : Int32 × Mem) (ha1 : shC[a1]? = some (1, 0)) (ha5 : shC[a5]? = some (1, 2)) (hf : f_X3_find_b118 k23 k52 a1 x2 x3 x4 a5 x6 x7 s0 s1 M = some z) : V l g (wC b) m_X3_find 118 [(0, .ref (b + 5)), (1, .ref (b + a1)), (2, .int x2), (3, .int x3), (4, .int x4), (5, .ref (b + a5)), (6, .int x6), (7, .int x7)] [.int s0, .int s1, .ref (b + 7)] M none z.2 := by
  unfold f_X3_find_b118 at hf
  obtain ⟨hi1, hf⟩ := g_if hf
  refine V_iast (Y := m_X3_find) (pc := 118) sC_7 hi1 dX3_find_118 ?_
  refine V_iinc (Y := m_X3_find) (pc := 119) (y := (x7 + (1 : Int32))) 7 [(7, .int (x7 + (1 : Int32))), (0, .ref (b + 5)), (1, .ref (b + a1)), (2, .int x2), (3, .int x3), (4, .int x4), (5, .ref (b + a5)), (6, .int x6)] dX3_find_119 rfl rfl (by decide +kernel) rfl ?_
  refine V_goto (Y := m_X3_find) (pc := 122) (tgt := 52) dX3_find_122 (by decide +kernel) ?_
  exact V_sub [1, 2, 3, 4, 5, 6, 7, 0] rfl (hk52 a1 x2 x3 x4 a5 x6 (x7 + (1 : Int32)) (mset M 7 (ix s1) s0) z ha1 ha5 hf)
def f_X3_find_b52 (k23 : Nat → Int32 → Int32 → Int32 → Mem → Option (Int32 × Mem)) : Nat → Nat → Int32 → Int32 → Int32 → Nat → Int32 → Int32 → Mem → Option (Int32 × Mem)
  | 0, _, _, _, _, _, _, _, _ => none
  | n + 1, a1, x2, x3, x4, a5, x6, x7, M =>
    if (M 5 4) ≤ x7 then
      f_X3_find_b125 k23 a1 x2 x3 x4 M
    else
      (f_X0_chosenMark a1 x3 x7 M).bind fun q1 =>
      (f_X0_saysOf a1 q1.1 q1.2).bind fun q2 =>
      (f_X2_span a5 q2.2).bind fun q3 =>
      (f_X2_span q1.1 q3.2).bind fun q4 =>
      if (q3.1 + q4.1) < (iabs (x6 - q2.1)) then
        f_X3_find_b118 k23 (f_X3_find_b52 k23 n) a1 x2 x3 x4 a5 x6 x7 (-1000000005 : Int32) ((x4 * (5 : Int32)) + x7) q4.2
      else
        f_X3_find_b118 k23 (f_X3_find_b52 k23 n) a1 x2 x3 x4 a5 x6 x7 (iabs (x6 - q2.1)) ((x4 * (5 : Int32)) + x7) q4.2
set_option maxRecDepth 20000 in
set_option maxHeartbeats 4000000 in
theorem ok_X3_find_b52 {l : Launch} {g : Gam} {b : Nat} (k23 : Nat → Int32 → Int32 → Int32 → Mem → Option (Int32 × Mem)) (hk23 : ∀ (a1 : Nat) (x2 : Int32) (x3 : Int32) (x4 : Int32) (M : Mem) (z : Int32 × Mem), shC[a1]? = some (1, 0) → k23 a1 x2 x3 x4 M = some z → V l g (wC b) m_X3_find 23 [(0, .ref (b + 5)), (1, .ref (b + a1)), (2, .int x2), (3, .int x3), (4, .int x4)] [] M none z.2) : ∀ (n : Nat) (a1 : Nat) (x2 : Int32) (x3 : Int32) (x4 : Int32) (a5 : Nat) (x6 : Int32) (x7 : Int32) (M : Mem) (z : Int32 × Mem), (ha1 : shC[a1]? = some (1, 0)) → (ha5 : shC[a5]? = some (1, 2)) → f_X3_find_b52 k23 n a1 x2 x3 x4 a5 x6 x7 M = some z → V l g (wC b) m_X3_find 52 [(0, .ref (b + 5)), (1, .ref (b + a1)), (2, .int x2), (3, .int x3), (4, .int x4), (5, .ref (b + a5)), (6, .int x6), (7, .int x7)] [] M none z.2 := by
  intro n
  induction n with
  | zero =>
    intro a1 x2 x3 x4 a5 x6 x7 M z ha1 ha5 hf
    cases hf
  | succ n ih =>
    intro a1 x2 x3 x4 a5 x6 x7 M z ha1 ha5 hf
    rw [f_X3_find_b52] at hf
    refine V_iload (Y := m_X3_find) (pc := 52) 7 dX3_find_52 rfl ?_
    refine V_aload_n (Y := m_X3_find) (pc := 54) 0 dX3_find_54 rfl ?_
    refine V_gi (Y := m_X3_find) (pc := 55) 4 kX3 sC_5 (by decide +kernel) rfl tw_184 dX3_find_55 ?_
    refine V_icmp_ge (Y := m_X3_find) (pc := 58) (tgt := 125) dX3_find_58 (by decide +kernel) hf (fun hf => ?_) (fun hf => ?_)
    · exact V_sub [0, 1, 2, 3, 4] rfl (ok_X3_find_b125 k23 hk23 a1 x2 x3 x4 M z ha1 hf)
    · refine V_aload_n (Y := m_X3_find) (pc := 61) 1 dX3_find_61 rfl ?_
      refine V_iload_n (Y := m_X3_find) (pc := 62) 3 dX3_find_62 rfl ?_
      refine V_iload (Y := m_X3_find) (pc := 63) 7 dX3_find_63 rfl ?_
      obtain ⟨q1, hq1, hf⟩ := g_bind hf
      refine V_cVr (Y := m_X3_find) (pc := 65) (As := [.int x3, .int x7]) yf_X0_chosenMark kX0 ha1 (by decide +kernel) (ok_X0_chosenMark a1 x3 x7 M _ ha1 hq1) tw_793 tw_794 tw_792 rfl rfl (Nat.le_of_ble_eq_true rfl) dX3_find_65 ?_
      refine V_astore (Y := m_X3_find) (pc := 68) [(8, .ref (b + q1.1)), (0, .ref (b + 5)), (1, .ref (b + a1)), (2, .int x2), (3, .int x3), (4, .int x4), (5, .ref (b + a5)), (6, .int x6), (7, .int x7)] dX3_find_68 (by decide +kernel) rfl ?_
      refine V_iload (Y := m_X3_find) (pc := 70) 7 dX3_find_70 rfl ?_
      refine V_aload_n (Y := m_X3_find) (pc := 72) 2 dX3_find_72 rfl ?_
      refine V_aload (Y := m_X3_find) (pc := 73) 0 dX3_find_73 rfl ?_
      obtain ⟨q2, hq2, hf⟩ := g_bind hf
      refine V_cVi (Y := m_X3_find) (pc := 75) (As := [.ref (b + q1.1)]) yf_X0_saysOf kX0 ha1 (by decide +kernel) (ok_X0_saysOf a1 q1.1 q1.2 _ ha1 (ty_X0_chosenMark a1 x3 x7 M _ ha1 hq1) hq2) tw_498 tw_499 tw_796 rfl rfl (Nat.le_of_ble_eq_true rfl) dX3_find_75 ?_
      refine V_isub (Y := m_X3_find) (pc := 78) dX3_find_78 ?_
      refine V_mabs (Y := m_X3_find) (pc := 79) (by decide +kernel) j_mabs tw_797 (Nat.le_of_ble_eq_true rfl) dX3_find_79 ?_
      refine V_istore (Y := m_X3_find) (pc := 82) [(9, .int (iabs (x6 - q2.1))), (8, .ref (b + q1.1)), (0, .ref (b + 5)), (1, .ref (b + a1)), (2, .int x2), (3, .int x3), (4, .int x4), (5, .ref (b + a5)), (6, .int x6), (7, .int x7)] dX3_find_82 (by decide +kernel) rfl ?_
      refine V_aload_n (Y := m_X3_find) (pc := 84) 2 dX3_find_84 rfl ?_
      refine V_grL (Y := m_X3_find) (pc := 85) (x := 7) 5 kX3 sC_5 (by decide +kernel) rfl rfl tw_185 dX3_find_85 ?_
      refine V_iload (Y := m_X3_find) (pc := 88) 6 dX3_find_88 rfl ?_
      refine V_iconst (Y := m_X3_find) (pc := 90) (x := (5 : Int32)) dX3_find_90 (by decide +kernel) ?_
      refine V_imul (Y := m_X3_find) (pc := 91) dX3_find_91 ?_
      refine V_iload (Y := m_X3_find) (pc := 92) 9 dX3_find_92 rfl ?_
      refine V_iadd (Y := m_X3_find) (pc := 94) dX3_find_94 ?_
      refine V_iload (Y := m_X3_find) (pc := 95) 0 dX3_find_95 rfl ?_
      refine V_aload (Y := m_X3_find) (pc := 97) 7 dX3_find_97 rfl ?_
      obtain ⟨q3, hq3, hf⟩ := g_bind hf
      refine V_cVi (Y := m_X3_find) (pc := 99) (As := []) yf_X2_span kX2 ha5 (by decide +kernel) (ok_X2_span a5 q2.2 _ ha5 hq3) tw_541 tw_542 tw_800 rfl rfl (Nat.le_of_ble_eq_true rfl) dX3_find_99 ?_
      refine V_aload (Y := m_X3_find) (pc := 102) 1 dX3_find_102 rfl ?_
      obtain ⟨q4, hq4, hf⟩ := g_bind hf
      refine V_cVi (Y := m_X3_find) (pc := 104) (As := []) yf_X2_span kX2 (ty_X0_chosenMark a1 x3 x7 M _ ha1 hq1) (by decide +kernel) (ok_X2_span q1.1 q3.2 _ (ty_X0_chosenMark a1 x3 x7 M _ ha1 hq1) hq4) tw_541 tw_542 tw_800 rfl rfl (Nat.le_of_ble_eq_true rfl) dX3_find_104 ?_
      refine V_iadd (Y := m_X3_find) (pc := 107) dX3_find_107 ?_
      refine V_icmp_gt (Y := m_X3_find) (pc := 108) (tgt := 116) dX3_find_108 (by decide +kernel) hf (fun hf => ?_) (fun hf => ?_)
      · refine V_ldc (Y := m_X3_find) (pc := 116) (x := (-1000000005 : Int32)) dX3_find_116 tw_801 ?_
        exact V_sub [2, 3, 4, 5, 6, 7, 8, 9] rfl (ok_X3_find_b118 k23 (f_X3_find_b52 k23 n) hk23 ih a1 x2 x3 x4 a5 x6 x7 (-1000000005 : Int32) ((x4 * (5 : Int32)) + x7) q4.2 z ha1 ha5 hf)
      · refine V_iload (Y := m_X3_find) (pc := 111) 0 dX3_find_111 rfl ?_
        refine V_goto (Y := m_X3_find) (pc := 113) (tgt := 118) dX3_find_113 (by decide +kernel) ?_
        exact V_sub [2, 3, 4, 5, 6, 7, 8, 9] rfl (ok_X3_find_b118 k23 (f_X3_find_b52 k23 n) hk23 ih a1 x2 x3 x4 a5 x6 x7 (iabs (x6 - q2.1)) ((x4 * (5 : Int32)) + x7) q4.2 z ha1 ha5 hf)
def f_X3_find_b23  : Nat → Nat → Int32 → Int32 → Int32 → Mem → Option (Int32 × Mem)
  | 0, _, _, _, _, _ => none
  | n + 1, a1, x2, x3, x4, M =>
    if (M 5 3) ≤ x4 then
      f_X3_find_b131  a1 x3 M
    else
      (f_X0_chosenMark a1 x2 x4 M).bind fun q1 =>
      (f_X0_saysOf a1 q1.1 q1.2).bind fun q2 =>
      f_X3_find_b52 (f_X3_find_b23  n) FU a1 x2 x3 x4 q1.1 q2.1 (0 : Int32) q2.2
set_option maxRecDepth 20000 in
set_option maxHeartbeats 4000000 in
theorem ok_X3_find_b23 {l : Launch} {g : Gam} {b : Nat}   : ∀ (n : Nat) (a1 : Nat) (x2 : Int32) (x3 : Int32) (x4 : Int32) (M : Mem) (z : Int32 × Mem), (ha1 : shC[a1]? = some (1, 0)) → f_X3_find_b23  n a1 x2 x3 x4 M = some z → V l g (wC b) m_X3_find 23 [(0, .ref (b + 5)), (1, .ref (b + a1)), (2, .int x2), (3, .int x3), (4, .int x4)] [] M none z.2 := by
  intro n
  induction n with
  | zero =>
    intro a1 x2 x3 x4 M z ha1 hf
    cases hf
  | succ n ih =>
    intro a1 x2 x3 x4 M z ha1 hf
    rw [f_X3_find_b23] at hf
    refine V_iload (Y := m_X3_find) (pc := 23) 4 dX3_find_23 rfl ?_
    refine V_aload_n (Y := m_X3_find) (pc := 25) 0 dX3_find_25 rfl ?_
    refine V_gi (Y := m_X3_find) (pc := 26) 3 kX3 sC_5 (by decide +kernel) rfl tw_183 dX3_find_26 ?_
    refine V_icmp_ge (Y := m_X3_find) (pc := 29) (tgt := 131) dX3_find_29 (by decide +kernel) hf (fun hf => ?_) (fun hf => ?_)
    · exact V_sub [0, 1, 3] rfl (ok_X3_find_b131  a1 x3 M z ha1 hf)
    · refine V_aload_n (Y := m_X3_find) (pc := 32) 1 dX3_find_32 rfl ?_
      refine V_iload_n (Y := m_X3_find) (pc := 33) 2 dX3_find_33 rfl ?_
      refine V_iload (Y := m_X3_find) (pc := 34) 4 dX3_find_34 rfl ?_
      obtain ⟨q1, hq1, hf⟩ := g_bind hf
      refine V_cVr (Y := m_X3_find) (pc := 36) (As := [.int x2, .int x4]) yf_X0_chosenMark kX0 ha1 (by decide +kernel) (ok_X0_chosenMark a1 x2 x4 M _ ha1 hq1) tw_793 tw_794 tw_792 rfl rfl (Nat.le_of_ble_eq_true rfl) dX3_find_36 ?_
      refine V_astore (Y := m_X3_find) (pc := 39) [(5, .ref (b + q1.1)), (0, .ref (b + 5)), (1, .ref (b + a1)), (2, .int x2), (3, .int x3), (4, .int x4)] dX3_find_39 (by decide +kernel) rfl ?_
      refine V_aload_n (Y := m_X3_find) (pc := 41) 2 dX3_find_41 rfl ?_
      refine V_aload (Y := m_X3_find) (pc := 42) 0 dX3_find_42 rfl ?_
      obtain ⟨q2, hq2, hf⟩ := g_bind hf
      refine V_cVi (Y := m_X3_find) (pc := 44) (As := [.ref (b + q1.1)]) yf_X0_saysOf kX0 ha1 (by decide +kernel) (ok_X0_saysOf a1 q1.1 q1.2 _ ha1 (ty_X0_chosenMark a1 x2 x4 M _ ha1 hq1) hq2) tw_498 tw_499 tw_796 rfl rfl (Nat.le_of_ble_eq_true rfl) dX3_find_44 ?_
      refine V_istore (Y := m_X3_find) (pc := 47) [(6, .int q2.1), (5, .ref (b + q1.1)), (0, .ref (b + 5)), (1, .ref (b + a1)), (2, .int x2), (3, .int x3), (4, .int x4)] dX3_find_47 (by decide +kernel) rfl ?_
      refine V_iconst (Y := m_X3_find) (pc := 49) (x := (0 : Int32)) dX3_find_49 (by decide +kernel) ?_
      refine V_istore (Y := m_X3_find) (pc := 50) [(7, .int (0 : Int32)), (6, .int q2.1), (5, .ref (b + q1.1)), (0, .ref (b + 5)), (1, .ref (b + a1)), (2, .int x2), (3, .int x3), (4, .int x4)] dX3_find_50 (by decide +kernel) rfl ?_
      exact V_sub [3, 4, 5, 6, 7, 2, 1, 0] rfl (ok_X3_find_b52 (f_X3_find_b23  n) ih FU a1 x2 x3 x4 q1.1 q2.1 (0 : Int32) q2.2 z ha1 (ty_X0_chosenMark a1 x2 x4 M _ ha1 hq1) hf)
def f_X3_find_b0  (a1 : Nat) (x2 : Int32) (x3 : Int32) (M : Mem) : Option (Int32 × Mem) :=
  if ixb x2 3 = true then
  if ixb x3 3 = true then
  f_X3_find_b23  FU a1 x2 x3 (0 : Int32) (mset (mset M 5 3 (M (rfC a1 4) (ix x2))) 5 4 ((mset M 5 3 (M (rfC a1 4) (ix x2))) (rfC a1 4) (ix x3)))
  else none
  else none
set_option maxRecDepth 20000 in
set_option maxHeartbeats 4000000 in
theorem ok_X3_find_b0 {l : Launch} {g : Gam} {b : Nat}   (a1 : Nat) (x2 : Int32) (x3 : Int32) (M : Mem) (z : Int32 × Mem) (ha1 : shC[a1]? = some (1, 0)) (hf : f_X3_find_b0 a1 x2 x3 M = some z) : V l g (wC b) m_X3_find 0 [(0, .ref (b + 5)), (1, .ref (b + a1)), (2, .int x2), (3, .int x3)] [] M none z.2 := by
  unfold f_X3_find_b0 at hf
  refine V_aload_n (Y := m_X3_find) (pc := 0) 0 dX3_find_0 rfl ?_
  refine V_aload_n (Y := m_X3_find) (pc := 1) 1 dX3_find_1 rfl ?_
  refine V_gr (Y := m_X3_find) (pc := 2) 4 kX0 ha1 (by decide +kernel) rfl tw_340 dX3_find_2 ?_
  refine V_iload_n (Y := m_X3_find) (pc := 5) 2 dX3_find_5 rfl ?_
  obtain ⟨hi1, hf⟩ := g_if hf
  refine V_iald (Y := m_X3_find) (pc := 6) (wtC.1 _ _ ha1 4 _ rfl) hi1 dX3_find_6 ?_
  refine V_pi (Y := m_X3_find) (pc := 7) 3 kX3 sC_5 (by decide +kernel) rfl rfl rfl tw_183 dX3_find_7 ?_
  refine V_aload_n (Y := m_X3_find) (pc := 10) 0 dX3_find_10 rfl ?_
  refine V_aload_n (Y := m_X3_find) (pc := 11) 1 dX3_find_11 rfl ?_
  refine V_gr (Y := m_X3_find) (pc := 12) 4 kX0 ha1 (by decide +kernel) rfl tw_340 dX3_find_12 ?_
  refine V_iload_n (Y := m_X3_find) (pc := 15) 3 dX3_find_15 rfl ?_
  obtain ⟨hi2, hf⟩ := g_if hf
  refine V_iald (Y := m_X3_find) (pc := 16) (wtC.1 _ _ ha1 4 _ rfl) hi2 dX3_find_16 ?_
  refine V_pi (Y := m_X3_find) (pc := 17) 4 kX3 sC_5 (by decide +kernel) rfl rfl rfl tw_184 dX3_find_17 ?_
  refine V_iconst (Y := m_X3_find) (pc := 20) (x := (0 : Int32)) dX3_find_20 (by decide +kernel) ?_
  refine V_istore (Y := m_X3_find) (pc := 21) [(4, .int (0 : Int32)), (0, .ref (b + 5)), (1, .ref (b + a1)), (2, .int x2), (3, .int x3)] dX3_find_21 (by decide +kernel) rfl ?_
  exact V_sub [1, 2, 3, 4, 0] rfl (ok_X3_find_b23  FU a1 x2 x3 (0 : Int32) (mset (mset M 5 3 (M (rfC a1 4) (ix x2))) 5 4 ((mset M 5 3 (M (rfC a1 4) (ix x2))) (rfC a1 4) (ix x3))) z ha1 hf)
def f_X3_find (a1 : Nat) (x2 : Int32) (x3 : Int32) (M : Mem) : Option (Int32 × Mem) := f_X3_find_b0 a1 x2 x3 M
set_option maxRecDepth 20000 in
set_option maxHeartbeats 4000000 in
theorem ok_X3_find {l : Launch} {g : Gam} {b : Nat} : ∀ (a1 : Nat) (x2 : Int32) (x3 : Int32) (M : Mem) (z : Int32 × Mem), shC[a1]? = some (1, 0) → f_X3_find a1 x2 x3 M = some z → Cn l g (wC b) m_X3_find [.ref (b + 5), .ref (b + a1), .int x2, .int x3] M none z.2 := fun a1 x2 x3 M z ha1 hf => Cn_of (by decide +kernel) (Nat.le_of_ble_eq_true rfl) (V_sub [0, 1, 2, 3] rfl (ok_X3_find_b0 a1 x2 x3 M z ha1 hf))

abbrev m_X4_take : Mth := (yX4_take, cX4_take, 3, none, 1)
theorem yf_X4_take : YF m_X4_take 1 := ⟨tw_574, tw_66, by decide +kernel, by decide +kernel⟩
def f_X4_take_b3  : Nat → Int32 → Int32 → Mem → Option (Int32 × Mem)
  | 0, _, _, _ => none
  | n + 1, x1, x2, M =>
    if x2 < 0 then
      some (0, M)
    else
      if (96 : Int32) ≤ (M 1 1) then
        some (0, M)
      else
        if ixb (M 1 1) 96 = true then
        f_X4_take_b3  n x1 (x2 + (-8 : Int32)) (mset (mset M 1 1 ((M 1 1) + (1 : Int32))) 2 (ix (M 1 1)) ((iushr x1 x2) &&& (255 : Int32)))
        else none
set_option maxRecDepth 20000 in
set_option maxHeartbeats 4000000 in
theorem ok_X4_take_b3 {l : Launch} {g : Gam} {b : Nat}   : ∀ (n : Nat) (x1 : Int32) (x2 : Int32) (M : Mem) (z : Int32 × Mem), f_X4_take_b3  n x1 x2 M = some z → V l g (wC b) m_X4_take 3 [(0, .ref (b + 1)), (1, .int x1), (2, .int x2)] [] M none z.2 := by
  intro n
  induction n with
  | zero =>
    intro x1 x2 M z  hf
    cases hf
  | succ n ih =>
    intro x1 x2 M z  hf
    rw [f_X4_take_b3] at hf
    refine V_iload_n (Y := m_X4_take) (pc := 3) 2 dX4_take_3 rfl ?_
    refine V_if_lt (Y := m_X4_take) (pc := 4) (tgt := 45) dX4_take_4 (by decide +kernel) hf (fun hf => ?_) (fun hf => ?_)
    · obtain rfl := Option.some.inj hf
      exact V_vret (Y := m_X4_take) rfl dX4_take_45
    · refine V_aload_n (Y := m_X4_take) (pc := 7) 0 dX4_take_7 rfl ?_
      refine V_gi (Y := m_X4_take) (pc := 8) 1 kX4 sC_1 (by decide +kernel) rfl tw_98 dX4_take_8 ?_
      refine V_bipush (Y := m_X4_take) (pc := 11) (x := (96 : Int32)) dX4_take_11 (by decide +kernel) ?_
      refine V_icmp_ge (Y := m_X4_take) (pc := 13) (tgt := 45) dX4_take_13 (by decide +kernel) hf (fun hf => ?_) (fun hf => ?_)
      · obtain rfl := Option.some.inj hf
        exact V_vret (Y := m_X4_take) rfl dX4_take_45
      · refine V_aload_n (Y := m_X4_take) (pc := 16) 0 dX4_take_16 rfl ?_
        refine V_grL (Y := m_X4_take) (pc := 17) (x := 2) 0 kX4 sC_1 (by decide +kernel) rfl rfl tw_97 dX4_take_17 ?_
        refine V_aload_n (Y := m_X4_take) (pc := 20) 0 dX4_take_20 rfl ?_
        refine V_dup (Y := m_X4_take) (pc := 21) dX4_take_21 rfl ?_
        refine V_gi (Y := m_X4_take) (pc := 22) 1 kX4 sC_1 (by decide +kernel) rfl tw_98 dX4_take_22 ?_
        refine V_dup_x1 (Y := m_X4_take) (pc := 25) dX4_take_25 rfl rfl ?_
        refine V_iconst (Y := m_X4_take) (pc := 26) (x := (1 : Int32)) dX4_take_26 (by decide +kernel) ?_
        refine V_iadd (Y := m_X4_take) (pc := 27) dX4_take_27 ?_
        refine V_pi (Y := m_X4_take) (pc := 28) 1 kX4 sC_1 (by decide +kernel) rfl rfl rfl tw_98 dX4_take_28 ?_
        refine V_iload_n (Y := m_X4_take) (pc := 31) 1 dX4_take_31 rfl ?_
        refine V_iload_n (Y := m_X4_take) (pc := 32) 2 dX4_take_32 rfl ?_
        refine V_iushr (Y := m_X4_take) (pc := 33) dX4_take_33 ?_
        refine V_sipush (Y := m_X4_take) (pc := 34) (x := (255 : Int32)) dX4_take_34 (by decide +kernel) ?_
        refine V_iand (Y := m_X4_take) (pc := 37) dX4_take_37 ?_
        obtain ⟨hi1, hf⟩ := g_if hf
        refine V_iast (Y := m_X4_take) (pc := 38) sC_2 hi1 dX4_take_38 ?_
        refine V_iinc (Y := m_X4_take) (pc := 39) (y := (x2 + (-8 : Int32))) 2 [(2, .int (x2 + (-8 : Int32))), (0, .ref (b + 1)), (1, .int x1)] dX4_take_39 rfl rfl (by decide +kernel) rfl ?_
        refine V_goto (Y := m_X4_take) (pc := 42) (tgt := 3) dX4_take_42 (by decide +kernel) ?_
        exact V_sub [1, 2, 0] rfl (ih x1 (x2 + (-8 : Int32)) (mset (mset M 1 1 ((M 1 1) + (1 : Int32))) 2 (ix (M 1 1)) ((iushr x1 x2) &&& (255 : Int32))) z  hf)
def f_X4_take_b0  (x1 : Int32) (M : Mem) : Option (Int32 × Mem) :=
  f_X4_take_b3  FU x1 (24 : Int32) M
set_option maxRecDepth 20000 in
set_option maxHeartbeats 4000000 in
theorem ok_X4_take_b0 {l : Launch} {g : Gam} {b : Nat}   (x1 : Int32) (M : Mem) (z : Int32 × Mem)  (hf : f_X4_take_b0 x1 M = some z) : V l g (wC b) m_X4_take 0 [(0, .ref (b + 1)), (1, .int x1)] [] M none z.2 := by
  unfold f_X4_take_b0 at hf
  refine V_bipush (Y := m_X4_take) (pc := 0) (x := (24 : Int32)) dX4_take_0 (by decide +kernel) ?_
  refine V_istore_n (Y := m_X4_take) (pc := 2) [(2, .int (24 : Int32)), (0, .ref (b + 1)), (1, .int x1)] dX4_take_2 (by decide +kernel) rfl ?_
  exact V_sub [1, 2, 0] rfl (ok_X4_take_b3  FU x1 (24 : Int32) M z  hf)
def f_X4_take (x1 : Int32) (M : Mem) : Option (Int32 × Mem) := f_X4_take_b0 x1 M
set_option maxRecDepth 20000 in
set_option maxHeartbeats 4000000 in
theorem ok_X4_take {l : Launch} {g : Gam} {b : Nat} : ∀ (x1 : Int32) (M : Mem) (z : Int32 × Mem), f_X4_take x1 M = some z → Cn l g (wC b) m_X4_take [.ref (b + 1), .int x1] M none z.2 := fun x1 M z  hf => Cn_of (by decide +kernel) (Nat.le_of_ble_eq_true rfl) (V_sub [0, 1] rfl (ok_X4_take_b0 x1 M z  hf))

abbrev m_X9_isWithin : Mth := (yX9_isWithin, cX9_isWithin, 3, some .boolean, 1)
theorem yf_X9_isWithin : YF m_X9_isWithin 3 := ⟨tw_480, tw_65, by decide +kernel, by decide +kernel⟩
def f_X9_isWithin_b0  (x0 : Int32) (x1 : Int32) (x2 : Int32) (M : Mem) : Option (Int32 × Mem) :=
  if x0 < x1 then
    some ((0 : Int32), M)
  else
    if x2 < x0 then
      some ((0 : Int32), M)
    else
      some ((1 : Int32), M)
set_option maxRecDepth 20000 in
set_option maxHeartbeats 4000000 in
theorem ok_X9_isWithin_b0 {l : Launch} {g : Gam} {b : Nat}   (x0 : Int32) (x1 : Int32) (x2 : Int32) (M : Mem) (z : Int32 × Mem)  (hf : f_X9_isWithin_b0 x0 x1 x2 M = some z) : V l g (wC b) m_X9_isWithin 0 [(0, .int x0), (1, .int x1), (2, .int x2)] [] M (some (.int z.1)) z.2 := by
  unfold f_X9_isWithin_b0 at hf
  refine V_iload_n (Y := m_X9_isWithin) (pc := 0) 0 dX9_isWithin_0 rfl ?_
  refine V_iload_n (Y := m_X9_isWithin) (pc := 1) 1 dX9_isWithin_1 rfl ?_
  refine V_icmp_lt (Y := m_X9_isWithin) (pc := 2) (tgt := 14) dX9_isWithin_2 (by decide +kernel) hf (fun hf => ?_) (fun hf => ?_)
  · refine V_iconst (Y := m_X9_isWithin) (pc := 14) (x := (0 : Int32)) dX9_isWithin_14 (by decide +kernel) ?_
    obtain rfl := Option.some.inj hf
    exact V_zret (Y := m_X9_isWithin) z01_0 rfl dX9_isWithin_15
  · refine V_iload_n (Y := m_X9_isWithin) (pc := 5) 0 dX9_isWithin_5 rfl ?_
    refine V_iload_n (Y := m_X9_isWithin) (pc := 6) 2 dX9_isWithin_6 rfl ?_
    refine V_icmp_gt (Y := m_X9_isWithin) (pc := 7) (tgt := 14) dX9_isWithin_7 (by decide +kernel) hf (fun hf => ?_) (fun hf => ?_)
    · refine V_iconst (Y := m_X9_isWithin) (pc := 14) (x := (0 : Int32)) dX9_isWithin_14 (by decide +kernel) ?_
      obtain rfl := Option.some.inj hf
      exact V_zret (Y := m_X9_isWithin) z01_0 rfl dX9_isWithin_15
    · refine V_iconst (Y := m_X9_isWithin) (pc := 10) (x := (1 : Int32)) dX9_isWithin_10 (by decide +kernel) ?_
      refine V_goto (Y := m_X9_isWithin) (pc := 11) (tgt := 15) dX9_isWithin_11 (by decide +kernel) ?_
      obtain rfl := Option.some.inj hf
      exact V_zret (Y := m_X9_isWithin) z01_1 rfl dX9_isWithin_15
def f_X9_isWithin (x0 : Int32) (x1 : Int32) (x2 : Int32) (M : Mem) : Option (Int32 × Mem) := f_X9_isWithin_b0 x0 x1 x2 M
set_option maxRecDepth 20000 in
set_option maxHeartbeats 4000000 in
theorem ok_X9_isWithin {l : Launch} {g : Gam} {b : Nat} : ∀ (x0 : Int32) (x1 : Int32) (x2 : Int32) (M : Mem) (z : Int32 × Mem), f_X9_isWithin x0 x1 x2 M = some z → Cn l g (wC b) m_X9_isWithin [.int x0, .int x1, .int x2] M (some (.int z.1)) z.2 := fun x0 x1 x2 M z  hf => Cn_of (by decide +kernel) (Nat.le_of_ble_eq_true rfl) (V_sub [0, 1, 2] rfl (ok_X9_isWithin_b0 x0 x1 x2 M z  hf))

