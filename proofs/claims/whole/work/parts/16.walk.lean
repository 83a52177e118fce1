abbrev m_X10_check : Mth := (yX10_check, cX10_check, 8, some .int, 2)
theorem yf_X10_check : YF m_X10_check 2 := ⟨tw_1641, tw_75, by decide +kernel, by decide +kernel⟩
def f_X10_check_b237  (x6 : Int32) (M : Mem) : Option (Int32 × Mem) :=
  some (((1 : Int32) + x6), M)
set_option maxRecDepth 20000 in
set_option maxHeartbeats 4000000 in
theorem ok_X10_check_b237 {l : Launch} {g : Gam} {b : Nat}   (x6 : Int32) (M : Mem) (z : Int32 × Mem)  (hf : f_X10_check_b237 x6 M = some z) : V l g (wM b) m_X10_check 237 [(6, .int x6)] [] M (some (.int z.1)) z.2 := by
  unfold f_X10_check_b237 at hf
  refine V_iconst (Y := m_X10_check) (pc := 237) (x := (1 : Int32)) dX10_check_237 (by decide +kernel) ?_
  refine V_iload (Y := m_X10_check) (pc := 238) 0 dX10_check_238 rfl ?_
  refine V_iadd (Y := m_X10_check) (pc := 240) dX10_check_240 ?_
  obtain rfl := Option.some.inj hf
  exact V_iret (Y := m_X10_check) rfl dX10_check_241
def f_X10_check_b220  (x3 : Int32) (x4 : Int32) (x6 : Int32) (M : Mem) : Option (Int32 × Mem) :=
  if x6 = x3 then
    if x6 = x4 then
      some ((0 : Int32), M)
    else
      f_X10_check_b237  x6 M
  else
    f_X10_check_b237  x6 M
set_option maxRecDepth 20000 in
set_option maxHeartbeats 4000000 in
theorem ok_X10_check_b220 {l : Launch} {g : Gam} {b : Nat}   (x3 : Int32) (x4 : Int32) (x6 : Int32) (M : Mem) (z : Int32 × Mem)  (hf : f_X10_check_b220 x3 x4 x6 M = some z) : V l g (wM b) m_X10_check 220 [(3, .int x3), (4, .int x4), (6, .int x6)] [] M (some (.int z.1)) z.2 := by
  unfold f_X10_check_b220 at hf
  refine V_iload (Y := m_X10_check) (pc := 220) 2 dX10_check_220 rfl ?_
  refine V_iload_n (Y := m_X10_check) (pc := 222) 0 dX10_check_222 rfl ?_
  refine V_icmp_ne (Y := m_X10_check) (pc := 223) (tgt := 237) dX10_check_223 (by decide +kernel) hf (fun hf => ?_) (fun hf => ?_)
  · exact V_sub [2] rfl (ok_X10_check_b237  x6 M z  hf)
  · refine V_iload (Y := m_X10_check) (pc := 226) 2 dX10_check_226 rfl ?_
    refine V_iload (Y := m_X10_check) (pc := 228) 1 dX10_check_228 rfl ?_
    refine V_icmp_ne (Y := m_X10_check) (pc := 230) (tgt := 237) dX10_check_230 (by decide +kernel) hf (fun hf => ?_) (fun hf => ?_)
    · exact V_sub [2] rfl (ok_X10_check_b237  x6 M z  hf)
    · refine V_iconst (Y := m_X10_check) (pc := 233) (x := (0 : Int32)) dX10_check_233 (by decide +kernel) ?_
      refine V_goto (Y := m_X10_check) (pc := 234) (tgt := 241) dX10_check_234 (by decide +kernel) ?_
      obtain rfl := Option.some.inj hf
      exact V_iret (Y := m_X10_check) rfl dX10_check_241
def f_X10_check_b184  : Nat → Int32 → Int32 → Int32 → Mem → Option (Int32 × Mem)
  | 0, _, _, _, _ => none
  | n + 1, x3, x4, x6, M =>
    if x3 ≤ x6 then
      f_X10_check_b220  x3 x4 x6 M
    else
      if x4 ≤ x6 then
        f_X10_check_b220  x3 x4 x6 M
      else
        if ixb x6 60 = true then
        if ixb x6 60 = true then
        if (M 22 (ix x6)) = (M 23 (ix x6)) then
          f_X10_check_b184  n x3 x4 (x6 + (1 : Int32)) M
        else
          f_X10_check_b220  x3 x4 x6 M
        else none
        else none
set_option maxRecDepth 20000 in
set_option maxHeartbeats 4000000 in
theorem ok_X10_check_b184 {l : Launch} {g : Gam} {b : Nat}   : ∀ (n : Nat) (x3 : Int32) (x4 : Int32) (x6 : Int32) (M : Mem) (z : Int32 × Mem), f_X10_check_b184  n x3 x4 x6 M = some z → V l g (wM b) m_X10_check 184 [(0, .ref (b + 0)), (3, .int x3), (4, .int x4), (6, .int x6)] [] M (some (.int z.1)) z.2 := by
  intro n
  induction n with
  | zero =>
    intro x3 x4 x6 M z  hf
    cases hf
  | succ n ih =>
    intro x3 x4 x6 M z  hf
    rw [f_X10_check_b184] at hf
    refine V_iload (Y := m_X10_check) (pc := 184) 3 dX10_check_184 rfl ?_
    refine V_iload_n (Y := m_X10_check) (pc := 186) 1 dX10_check_186 rfl ?_
    refine V_icmp_ge (Y := m_X10_check) (pc := 187) (tgt := 220) dX10_check_187 (by decide +kernel) hf (fun hf => ?_) (fun hf => ?_)
    · exact V_sub [1, 2, 3] rfl (ok_X10_check_b220  x3 x4 x6 M z  hf)
    · refine V_iload (Y := m_X10_check) (pc := 190) 3 dX10_check_190 rfl ?_
      refine V_iload (Y := m_X10_check) (pc := 192) 2 dX10_check_192 rfl ?_
      refine V_icmp_ge (Y := m_X10_check) (pc := 194) (tgt := 220) dX10_check_194 (by decide +kernel) hf (fun hf => ?_) (fun hf => ?_)
      · exact V_sub [1, 2, 3] rfl (ok_X10_check_b220  x3 x4 x6 M z  hf)
      · refine V_aload_n (Y := m_X10_check) (pc := 197) 0 dX10_check_197 rfl ?_
        refine V_grL (Y := m_X10_check) (pc := 198) (x := 22) 44 kX10 sM_0 (by decide +kernel) rfl rfl tw_1114 dX10_check_198 ?_
        refine V_iload (Y := m_X10_check) (pc := 201) 3 dX10_check_201 rfl ?_
        obtain ⟨hi1, hf⟩ := g_if hf
        refine V_iald (Y := m_X10_check) (pc := 203) sM_22 hi1 dX10_check_203 ?_
        refine V_aload_n (Y := m_X10_check) (pc := 204) 0 dX10_check_204 rfl ?_
        refine V_grL (Y := m_X10_check) (pc := 205) (x := 23) 46 kX10 sM_0 (by decide +kernel) rfl rfl tw_1116 dX10_check_205 ?_
        refine V_iload (Y := m_X10_check) (pc := 208) 3 dX10_check_208 rfl ?_
        obtain ⟨hi2, hf⟩ := g_if hf
        refine V_iald (Y := m_X10_check) (pc := 210) sM_23 hi2 dX10_check_210 ?_
        refine V_icmp_ne (Y := m_X10_check) (pc := 211) (tgt := 220) dX10_check_211 (by decide +kernel) hf (fun hf => ?_) (fun hf => ?_)
        · exact V_sub [1, 2, 3] rfl (ok_X10_check_b220  x3 x4 x6 M z  hf)
        · refine V_iinc (Y := m_X10_check) (pc := 214) (y := (x6 + (1 : Int32))) 3 [(6, .int (x6 + (1 : Int32))), (0, .ref (b + 0)), (3, .int x3), (4, .int x4)] dX10_check_214 rfl rfl (by decide +kernel) rfl ?_
          refine V_goto (Y := m_X10_check) (pc := 217) (tgt := 184) dX10_check_217 (by decide +kernel) ?_
          exact V_sub [1, 2, 3, 0] rfl (ih x3 x4 (x6 + (1 : Int32)) M z  hf)
def f_X10_check_b159  (x3 : Int32) (x4 : Int32) (M : Mem) : Option (Int32 × Mem) :=
  (f_X10_setAside 3 1 M).bind fun q1 =>
  if x4 ≤ (60 : Int32) then
    f_X10_check_b184  FU x3 x4 (0 : Int32) q1.2
  else
    some ((-1000000003 : Int32), q1.2)
set_option maxRecDepth 20000 in
set_option maxHeartbeats 4000000 in
theorem ok_X10_check_b159 {l : Launch} {g : Gam} {b : Nat}   (x3 : Int32) (x4 : Int32) (M : Mem) (z : Int32 × Mem)  (hf : f_X10_check_b159 x3 x4 M = some z) : V l g (wM b) m_X10_check 159 [(0, .ref (b + 0)), (3, .int x3), (4, .int x4)] [] M (some (.int z.1)) z.2 := by
  unfold f_X10_check_b159 at hf
  refine V_aload_n (Y := m_X10_check) (pc := 159) 0 dX10_check_159 rfl ?_
  refine V_aload_n (Y := m_X10_check) (pc := 160) 0 dX10_check_160 rfl ?_
  refine V_grL (Y := m_X10_check) (pc := 161) (x := 3) 2 kX10 sM_0 (by decide +kernel) rfl rfl tw_1072 dX10_check_161 ?_
  refine V_aload_n (Y := m_X10_check) (pc := 164) 0 dX10_check_164 rfl ?_
  refine V_grL (Y := m_X10_check) (pc := 165) (x := 1) 0 kX10 sM_0 (by decide +kernel) rfl rfl tw_1070 dX10_check_165 ?_
  obtain ⟨q1, hq1, hf⟩ := g_bind hf
  refine V_cVv (Y := m_X10_check) (pc := 168) (As := [.ref (b + 3), .ref (b + 1)]) yf_X10_setAside kX10 sM_0 (by decide +kernel) (ok_X10_setAside 3 1 M _ sM_3 sM_1 hq1) tw_1645 tw_62 tw_1643 rfl rfl (Nat.le_of_ble_eq_true rfl) dX10_check_168 ?_
  refine V_iload (Y := m_X10_check) (pc := 171) 2 dX10_check_171 rfl ?_
  refine V_bipush (Y := m_X10_check) (pc := 173) (x := (60 : Int32)) dX10_check_173 (by decide +kernel) ?_
  refine V_icmp_le (Y := m_X10_check) (pc := 175) (tgt := 181) dX10_check_175 (by decide +kernel) hf (fun hf => ?_) (fun hf => ?_)
  · refine V_iconst (Y := m_X10_check) (pc := 181) (x := (0 : Int32)) dX10_check_181 (by decide +kernel) ?_
    refine V_istore (Y := m_X10_check) (pc := 182) [(6, .int (0 : Int32)), (0, .ref (b + 0)), (3, .int x3), (4, .int x4)] dX10_check_182 (by decide +kernel) rfl ?_
    exact V_sub [1, 2, 3, 0] rfl (ok_X10_check_b184  FU x3 x4 (0 : Int32) q1.2 z  hf)
  · refine V_ldc (Y := m_X10_check) (pc := 178) (x := (-1000000003 : Int32)) dX10_check_178 tw_1225 ?_
    obtain rfl := Option.some.inj hf
    exact V_iret (Y := m_X10_check) rfl dX10_check_180
def f_X10_check_b153 (k86 : Int32 → Int32 → Int32 → Int32 → Int32 → Int32 → Mem → Option (Int32 × Mem)) (x1 : Int32) (x2 : Int32) (x3 : Int32) (x4 : Int32) (x5 : Int32) (x6 : Int32) (M : Mem) : Option (Int32 × Mem) :=
  k86 x1 x2 x3 x4 x5 (x6 + (1 : Int32)) M
set_option maxRecDepth 20000 in
set_option maxHeartbeats 4000000 in
theorem ok_X10_check_b153 {l : Launch} {g : Gam} {b : Nat} (k86 : Int32 → Int32 → Int32 → Int32 → Int32 → Int32 → Mem → Option (Int32 × Mem)) (hk86 : ∀ (x1 : Int32) (x2 : Int32) (x3 : Int32) (x4 : Int32) (x5 : Int32) (x6 : Int32) (M : Mem) (z : Int32 × Mem), k86 x1 x2 x3 x4 x5 x6 M = some z → V l g (wM b) m_X10_check 86 [(0, .ref (b + 0)), (1, .int x1), (2, .int x2), (3, .int x3), (4, .int x4), (5, .int x5), (6, .int x6)] [] M (some (.int z.1)) z.2) (x1 : Int32) (x2 : Int32) (x3 : Int32) (x4 : Int32) (x5 : Int32) (x6 : Int32) (M : Mem) (z : Int32 × Mem)  (hf : f_X10_check_b153 k86 x1 x2 x3 x4 x5 x6 M = some z) : V l g (wM b) m_X10_check 153 [(0, .ref (b + 0)), (1, .int x1), (2, .int x2), (3, .int x3), (4, .int x4), (5, .int x5), (6, .int x6)] [] M (some (.int z.1)) z.2 := by
  unfold f_X10_check_b153 at hf
  refine V_iinc (Y := m_X10_check) (pc := 153) (y := (x6 + (1 : Int32))) 6 [(6, .int (x6 + (1 : Int32))), (0, .ref (b + 0)), (1, .int x1), (2, .int x2), (3, .int x3), (4, .int x4), (5, .int x5)] dX10_check_153 rfl rfl (by decide +kernel) rfl ?_
  refine V_goto (Y := m_X10_check) (pc := 156) (tgt := 86) dX10_check_156 (by decide +kernel) ?_
  exact V_sub [1, 2, 3, 4, 5, 6, 0] rfl (hk86 x1 x2 x3 x4 x5 (x6 + (1 : Int32)) M z  hf)
def f_X10_check_b147 (k86 : Int32 → Int32 → Int32 → Int32 → Int32 → Int32 → Mem → Option (Int32 × Mem)) (k102 : Int32 → Int32 → Int32 → Int32 → Int32 → Int32 → Int32 → Mem → Option (Int32 × Mem)) (x1 : Int32) (x2 : Int32) (x3 : Int32) (x4 : Int32) (x5 : Int32) (x6 : Int32) (x7 : Int32) (M : Mem) : Option (Int32 × Mem) :=
  k102 x1 x2 x3 x4 x5 x6 (x7 + (1 : Int32)) M
set_option maxRecDepth 20000 in
set_option maxHeartbeats 4000000 in
theorem ok_X10_check_b147 {l : Launch} {g : Gam} {b : Nat} (k86 : Int32 → Int32 → Int32 → Int32 → Int32 → Int32 → Mem → Option (Int32 × Mem)) (k102 : Int32 → Int32 → Int32 → Int32 → Int32 → Int32 → Int32 → Mem → Option (Int32 × Mem)) (hk86 : ∀ (x1 : Int32) (x2 : Int32) (x3 : Int32) (x4 : Int32) (x5 : Int32) (x6 : Int32) (M : Mem) (z : Int32 × Mem), k86 x1 x2 x3 x4 x5 x6 M = some z → V l g (wM b) m_X10_check 86 [(0, .ref (b + 0)), (1, .int x1), (2, .int x2), (3, .int x3), (4, .int x4), (5, .int x5), (6, .int x6)] [] M (some (.int z.1)) z.2) (hk102 : ∀ (x1 : Int32) (x2 : Int32) (x3 : Int32) (x4 : Int32) (x5 : Int32) (x6 : Int32) (x7 : Int32) (M : Mem) (z : Int32 × Mem), k102 x1 x2 x3 x4 x5 x6 x7 M = some z → V l g (wM b) m_X10_check 102 [(0, .ref (b + 0)), (1, .int x1), (2, .int x2), (3, .int x3), (4, .int x4), (5, .int x5), (6, .int x6), (7, .int x7)] [] M (some (.int z.1)) z.2) (x1 : Int32) (x2 : Int32) (x3 : Int32) (x4 : Int32) (x5 : Int32) (x6 : Int32) (x7 : Int32) (M : Mem) (z : Int32 × Mem)  (hf : f_X10_check_b147 k86 k102 x1 x2 x3 x4 x5 x6 x7 M = some z) : V l g (wM b) m_X10_check 147 [(0, .ref (b + 0)), (1, .int x1), (2, .int x2), (3, .int x3), (4, .int x4), (5, .int x5), (6, .int x6), (7, .int x7)] [] M (some (.int z.1)) z.2 := by
  unfold f_X10_check_b147 at hf
  refine V_iinc (Y := m_X10_check) (pc := 147) (y := (x7 + (1 : Int32))) 7 [(7, .int (x7 + (1 : Int32))), (0, .ref (b + 0)), (1, .int x1), (2, .int x2), (3, .int x3), (4, .int x4), (5, .int x5), (6, .int x6)] dX10_check_147 rfl rfl (by decide +kernel) rfl ?_
  refine V_goto (Y := m_X10_check) (pc := 150) (tgt := 102) dX10_check_150 (by decide +kernel) ?_
  exact V_sub [1, 2, 3, 4, 5, 6, 7, 0] rfl (hk102 x1 x2 x3 x4 x5 x6 (x7 + (1 : Int32)) M z  hf)
def f_X10_check_b102 (k86 : Int32 → Int32 → Int32 → Int32 → Int32 → Int32 → Mem → Option (Int32 × Mem)) : Nat → Int32 → Int32 → Int32 → Int32 → Int32 → Int32 → Int32 → Mem → Option (Int32 × Mem)
  | 0, _, _, _, _, _, _, _, _ => none
  | n + 1, x1, x2, x3, x4, x5, x6, x7, M =>
    if (9 : Int32) ≤ x7 then
      f_X10_check_b153 k86 x1 x2 x3 x4 x5 x6 M
    else
      if ixb ((20 : Int32) + x7) 3300 = true then
      if (M 1 (ix ((20 : Int32) + x7))) < 0 then
        f_X10_check_b147 k86 (f_X10_check_b102 k86 n) x1 x2 x3 x4 x5 x6 x7 M
      else
        if ixb ((20 : Int32) + x7) 3300 = true then
        (f_X10_drawn (M 1 (ix ((20 : Int32) + x7))) x2 M).bind fun q3 =>
        if ixb x5 60 = true then
        f_X10_check_b147 k86 (f_X10_check_b102 k86 n) x1 x2 x3 x4 (x5 + (1 : Int32)) x6 x7 (mset q3.2 23 (ix x5) q3.1)
        else none
        else none
      else none
set_option maxRecDepth 20000 in
set_option maxHeartbeats 4000000 in
theorem ok_X10_check_b102 {l : Launch} {g : Gam} {b : Nat} (k86 : Int32 → Int32 → Int32 → Int32 → Int32 → Int32 → Mem → Option (Int32 × Mem)) (hk86 : ∀ (x1 : Int32) (x2 : Int32) (x3 : Int32) (x4 : Int32) (x5 : Int32) (x6 : Int32) (M : Mem) (z : Int32 × Mem), k86 x1 x2 x3 x4 x5 x6 M = some z → V l g (wM b) m_X10_check 86 [(0, .ref (b + 0)), (1, .int x1), (2, .int x2), (3, .int x3), (4, .int x4), (5, .int x5), (6, .int x6)] [] M (some (.int z.1)) z.2) : ∀ (n : Nat) (x1 : Int32) (x2 : Int32) (x3 : Int32) (x4 : Int32) (x5 : Int32) (x6 : Int32) (x7 : Int32) (M : Mem) (z : Int32 × Mem), f_X10_check_b102 k86 n x1 x2 x3 x4 x5 x6 x7 M = some z → V l g (wM b) m_X10_check 102 [(0, .ref (b + 0)), (1, .int x1), (2, .int x2), (3, .int x3), (4, .int x4), (5, .int x5), (6, .int x6), (7, .int x7)] [] M (some (.int z.1)) z.2 := by
  intro n
  induction n with
  | zero =>
    intro x1 x2 x3 x4 x5 x6 x7 M z  hf
    cases hf
  | succ n ih =>
    intro x1 x2 x3 x4 x5 x6 x7 M z  hf
    rw [f_X10_check_b102] at hf
    refine V_iload (Y := m_X10_check) (pc := 102) 7 dX10_check_102 rfl ?_
    refine V_bipush (Y := m_X10_check) (pc := 104) (x := (9 : Int32)) dX10_check_104 (by decide +kernel) ?_
    refine V_icmp_ge (Y := m_X10_check) (pc := 106) (tgt := 153) dX10_check_106 (by decide +kernel) hf (fun hf => ?_) (fun hf => ?_)
    · exact V_sub [0, 1, 2, 3, 4, 5, 6] rfl (ok_X10_check_b153 k86 hk86 x1 x2 x3 x4 x5 x6 M z  hf)
    · refine V_aload_n (Y := m_X10_check) (pc := 109) 0 dX10_check_109 rfl ?_
      refine V_grL (Y := m_X10_check) (pc := 110) (x := 1) 0 kX10 sM_0 (by decide +kernel) rfl rfl tw_1070 dX10_check_110 ?_
      refine V_bipush (Y := m_X10_check) (pc := 113) (x := (20 : Int32)) dX10_check_113 (by decide +kernel) ?_
      refine V_iload (Y := m_X10_check) (pc := 115) 7 dX10_check_115 rfl ?_
      refine V_iadd (Y := m_X10_check) (pc := 117) dX10_check_117 ?_
      obtain ⟨hi1, hf⟩ := g_if hf
      refine V_iald (Y := m_X10_check) (pc := 118) sM_1 hi1 dX10_check_118 ?_
      refine V_if_lt (Y := m_X10_check) (pc := 119) (tgt := 147) dX10_check_119 (by decide +kernel) hf (fun hf => ?_) (fun hf => ?_)
      · exact V_sub [0, 1, 2, 3, 4, 5, 6, 7] rfl (ok_X10_check_b147 k86 (f_X10_check_b102 k86 n) hk86 ih x1 x2 x3 x4 x5 x6 x7 M z  hf)
      · refine V_aload_n (Y := m_X10_check) (pc := 122) 0 dX10_check_122 rfl ?_
        refine V_grL (Y := m_X10_check) (pc := 123) (x := 23) 46 kX10 sM_0 (by decide +kernel) rfl rfl tw_1116 dX10_check_123 ?_
        refine V_iload (Y := m_X10_check) (pc := 126) 5 dX10_check_126 rfl ?_
        refine V_aload_n (Y := m_X10_check) (pc := 128) 0 dX10_check_128 rfl ?_
        refine V_aload_n (Y := m_X10_check) (pc := 129) 0 dX10_check_129 rfl ?_
        refine V_grL (Y := m_X10_check) (pc := 130) (x := 1) 0 kX10 sM_0 (by decide +kernel) rfl rfl tw_1070 dX10_check_130 ?_
        refine V_bipush (Y := m_X10_check) (pc := 133) (x := (20 : Int32)) dX10_check_133 (by decide +kernel) ?_
        refine V_iload (Y := m_X10_check) (pc := 135) 7 dX10_check_135 rfl ?_
        refine V_iadd (Y := m_X10_check) (pc := 137) dX10_check_137 ?_
        obtain ⟨hi2, hf⟩ := g_if hf
        refine V_iald (Y := m_X10_check) (pc := 138) sM_1 hi2 dX10_check_138 ?_
        refine V_iload_n (Y := m_X10_check) (pc := 139) 2 dX10_check_139 rfl ?_
        obtain ⟨q3, hq3, hf⟩ := g_bind hf
        refine V_cVi (Y := m_X10_check) (pc := 140) (As := [.int (M 1 (ix ((20 : Int32) + x7))), .int x2]) yf_X10_drawn kX10 sM_0 (by decide +kernel) (ok_X10_drawn (M 1 (ix ((20 : Int32) + x7))) x2 M _  hq3) tw_1592 tw_61 tw_1590 rfl rfl (Nat.le_of_ble_eq_true rfl) dX10_check_140 ?_
        obtain ⟨hi4, hf⟩ := g_if hf
        refine V_iast (Y := m_X10_check) (pc := 143) sM_23 hi4 dX10_check_143 ?_
        refine V_iinc (Y := m_X10_check) (pc := 144) (y := (x5 + (1 : Int32))) 5 [(5, .int (x5 + (1 : Int32))), (0, .ref (b + 0)), (1, .int x1), (2, .int x2), (3, .int x3), (4, .int x4), (6, .int x6), (7, .int x7)] dX10_check_144 rfl rfl (by decide +kernel) rfl ?_
        exact V_sub [1, 2, 3, 4, 5, 0, 6, 7] rfl (ok_X10_check_b147 k86 (f_X10_check_b102 k86 n) hk86 ih x1 x2 x3 x4 (x5 + (1 : Int32)) x6 x7 (mset q3.2 23 (ix x5) q3.1) z  hf)
def f_X10_check_b86  : Nat → Int32 → Int32 → Int32 → Int32 → Int32 → Int32 → Mem → Option (Int32 × Mem)
  | 0, _, _, _, _, _, _, _ => none
  | n + 1, x1, x2, x3, x4, x5, x6, M =>
    if x1 ≤ x6 then
      f_X10_check_b159  x3 x4 M
    else
      if (60 : Int32) < x4 then
        f_X10_check_b159  x3 x4 M
      else
        f_X10_check_b102 (f_X10_check_b86  n) FU x1 x2 x3 x4 x5 x6 (0 : Int32) M
set_option maxRecDepth 20000 in
set_option maxHeartbeats 4000000 in
theorem ok_X10_check_b86 {l : Launch} {g : Gam} {b : Nat}   : ∀ (n : Nat) (x1 : Int32) (x2 : Int32) (x3 : Int32) (x4 : Int32) (x5 : Int32) (x6 : Int32) (M : Mem) (z : Int32 × Mem), f_X10_check_b86  n x1 x2 x3 x4 x5 x6 M = some z → V l g (wM b) m_X10_check 86 [(0, .ref (b + 0)), (1, .int x1), (2, .int x2), (3, .int x3), (4, .int x4), (5, .int x5), (6, .int x6)] [] M (some (.int z.1)) z.2 := by
  intro n
  induction n with
  | zero =>
    intro x1 x2 x3 x4 x5 x6 M z  hf
    cases hf
  | succ n ih =>
    intro x1 x2 x3 x4 x5 x6 M z  hf
    rw [f_X10_check_b86] at hf
    refine V_iload (Y := m_X10_check) (pc := 86) 6 dX10_check_86 rfl ?_
    refine V_iload_n (Y := m_X10_check) (pc := 88) 1 dX10_check_88 rfl ?_
    refine V_icmp_ge (Y := m_X10_check) (pc := 89) (tgt := 159) dX10_check_89 (by decide +kernel) hf (fun hf => ?_) (fun hf => ?_)
    · exact V_sub [0, 3, 4] rfl (ok_X10_check_b159  x3 x4 M z  hf)
    · refine V_iload (Y := m_X10_check) (pc := 92) 4 dX10_check_92 rfl ?_
      refine V_bipush (Y := m_X10_check) (pc := 94) (x := (60 : Int32)) dX10_check_94 (by decide +kernel) ?_
      refine V_icmp_gt (Y := m_X10_check) (pc := 96) (tgt := 159) dX10_check_96 (by decide +kernel) hf (fun hf => ?_) (fun hf => ?_)
      · exact V_sub [0, 3, 4] rfl (ok_X10_check_b159  x3 x4 M z  hf)
      · refine V_iconst (Y := m_X10_check) (pc := 99) (x := (0 : Int32)) dX10_check_99 (by decide +kernel) ?_
        refine V_istore (Y := m_X10_check) (pc := 100) [(7, .int (0 : Int32)), (0, .ref (b + 0)), (1, .int x1), (2, .int x2), (3, .int x3), (4, .int x4), (5, .int x5), (6, .int x6)] dX10_check_100 (by decide +kernel) rfl ?_
        exact V_sub [1, 2, 3, 4, 5, 6, 7, 0] rfl (ok_X10_check_b102 (f_X10_check_b86  n) ih FU x1 x2 x3 x4 x5 x6 (0 : Int32) M z  hf)
def f_X10_check_b0  (x1 : Int32) (x2 : Int32) (M : Mem) : Option (Int32 × Mem) :=
  (f_X10_isIn x1.toInt64 (1 : Int64) (20 : Int64) (mset M 0 45 (0 : Int32))).bind fun q1 =>
  if q1.1 = 0 then
    some ((-1000000001 : Int32), q1.2)
  else
    (f_X10_isIn x2.toInt64 (0 : Int64) (200 : Int64) q1.2).bind fun q2 =>
    if q2.1 = 0 then
      some ((-1000000001 : Int32), q2.2)
    else
      if (q2.2 0 3) = 0 then
        some ((-1000000002 : Int32), q2.2)
      else
        (f_X10_setAside 1 3 q2.2).bind fun q3 =>
        (f_X10_setAside 2 1 q3.2).bind fun q4 =>
        (f_X10_surveyed  q4.2).bind fun q5 =>
        f_X10_check_b86  FU x1 x2 (M 0 45) (x1 * q5.1) (0 : Int32) (0 : Int32) q5.2
set_option maxRecDepth 20000 in
set_option maxHeartbeats 4000000 in
theorem ok_X10_check_b0 {l : Launch} {g : Gam} {b : Nat}   (x1 : Int32) (x2 : Int32) (M : Mem) (z : Int32 × Mem)  (hf : f_X10_check_b0 x1 x2 M = some z) : V l g (wM b) m_X10_check 0 [(0, .ref (b + 0)), (1, .int x1), (2, .int x2)] [] M (some (.int z.1)) z.2 := by
  unfold f_X10_check_b0 at hf
  refine V_aload_n (Y := m_X10_check) (pc := 0) 0 dX10_check_0 rfl ?_
  refine V_gi (Y := m_X10_check) (pc := 1) 45 kX10 sM_0 (by decide +kernel) rfl tw_1115 dX10_check_1 ?_
  refine V_istore_n (Y := m_X10_check) (pc := 4) [(3, .int (M 0 45)), (0, .ref (b + 0)), (1, .int x1), (2, .int x2)] dX10_check_4 (by decide +kernel) rfl ?_
  refine V_aload_n (Y := m_X10_check) (pc := 5) 1 dX10_check_5 rfl ?_
  refine V_iconst (Y := m_X10_check) (pc := 6) (x := (0 : Int32)) dX10_check_6 (by decide +kernel) ?_
  refine V_pi (Y := m_X10_check) (pc := 7) 45 kX10 sM_0 (by decide +kernel) rfl rfl rfl tw_1115 dX10_check_7 ?_
  refine V_iload_n (Y := m_X10_check) (pc := 10) 2 dX10_check_10 rfl ?_
  refine V_i2l (Y := m_X10_check) (pc := 11) dX10_check_11 ?_
  refine V_lconst (Y := m_X10_check) (pc := 12) (x := (1 : Int64)) dX10_check_12 (by decide +kernel) ?_
  refine V_ldc2 (Y := m_X10_check) (pc := 13) (x := (20 : Int64)) dX10_check_13 tw_1642 ?_
  obtain ⟨q1, hq1, hf⟩ := g_bind hf
  refine V_cSi (Y := m_X10_check) (pc := 16) (As := [.long x1.toInt64, .long (1 : Int64), .long (20 : Int64)]) yf_X10_isIn (by decide +kernel) (ok_X10_isIn x1.toInt64 (1 : Int64) (20 : Int64) (mset M 0 45 (0 : Int32)) _  hq1) tw_1218 tw_1217 rfl rfl (Nat.le_of_ble_eq_true rfl) dX10_check_16 ?_
  refine V_if_eq (Y := m_X10_check) (pc := 19) (tgt := 34) dX10_check_19 (by decide +kernel) hf (fun hf => ?_) (fun hf => ?_)
  · refine V_ldc (Y := m_X10_check) (pc := 34) (x := (-1000000001 : Int32)) dX10_check_34 tw_1224 ?_
    obtain rfl := Option.some.inj hf
    exact V_iret (Y := m_X10_check) rfl dX10_check_36
  · refine V_iload_n (Y := m_X10_check) (pc := 22) 3 dX10_check_22 rfl ?_
    refine V_i2l (Y := m_X10_check) (pc := 23) dX10_check_23 ?_
    refine V_lconst (Y := m_X10_check) (pc := 24) (x := (0 : Int64)) dX10_check_24 (by decide +kernel) ?_
    refine V_ldc2 (Y := m_X10_check) (pc := 25) (x := (200 : Int64)) dX10_check_25 tw_1515 ?_
    obtain ⟨q2, hq2, hf⟩ := g_bind hf
    refine V_cSi (Y := m_X10_check) (pc := 28) (As := [.long x2.toInt64, .long (0 : Int64), .long (200 : Int64)]) yf_X10_isIn (by decide +kernel) (ok_X10_isIn x2.toInt64 (0 : Int64) (200 : Int64) q1.2 _  hq2) tw_1218 tw_1217 rfl rfl (Nat.le_of_ble_eq_true rfl) dX10_check_28 ?_
    refine V_if_ne (Y := m_X10_check) (pc := 31) (tgt := 37) dX10_check_31 (by decide +kernel) hf (fun hf => ?_) (fun hf => ?_)
    · refine V_aload_n (Y := m_X10_check) (pc := 37) 1 dX10_check_37 rfl ?_
      refine V_gi (Y := m_X10_check) (pc := 38) 3 kX10 sM_0 (by decide +kernel) rfl tw_1073 dX10_check_38 ?_
      refine V_if_ne (Y := m_X10_check) (pc := 41) (tgt := 48) dX10_check_41 (by decide +kernel) hf (fun hf => ?_) (fun hf => ?_)
      · refine V_aload_n (Y := m_X10_check) (pc := 48) 1 dX10_check_48 rfl ?_
        refine V_aload_n (Y := m_X10_check) (pc := 49) 1 dX10_check_49 rfl ?_
        refine V_grL (Y := m_X10_check) (pc := 50) (x := 1) 0 kX10 sM_0 (by decide +kernel) rfl rfl tw_1070 dX10_check_50 ?_
        refine V_aload_n (Y := m_X10_check) (pc := 53) 1 dX10_check_53 rfl ?_
        refine V_grL (Y := m_X10_check) (pc := 54) (x := 3) 2 kX10 sM_0 (by decide +kernel) rfl rfl tw_1072 dX10_check_54 ?_
        obtain ⟨q3, hq3, hf⟩ := g_bind hf
        refine V_cVv (Y := m_X10_check) (pc := 57) (As := [.ref (b + 1), .ref (b + 3)]) yf_X10_setAside kX10 sM_0 (by decide +kernel) (ok_X10_setAside 1 3 q2.2 _ sM_1 sM_3 hq3) tw_1645 tw_62 tw_1643 rfl rfl (Nat.le_of_ble_eq_true rfl) dX10_check_57 ?_
        refine V_aload_n (Y := m_X10_check) (pc := 60) 1 dX10_check_60 rfl ?_
        refine V_aload_n (Y := m_X10_check) (pc := 61) 1 dX10_check_61 rfl ?_
        refine V_grL (Y := m_X10_check) (pc := 62) (x := 2) 1 kX10 sM_0 (by decide +kernel) rfl rfl tw_1071 dX10_check_62 ?_
        refine V_aload_n (Y := m_X10_check) (pc := 65) 1 dX10_check_65 rfl ?_
        refine V_grL (Y := m_X10_check) (pc := 66) (x := 1) 0 kX10 sM_0 (by decide +kernel) rfl rfl tw_1070 dX10_check_66 ?_
        obtain ⟨q4, hq4, hf⟩ := g_bind hf
        refine V_cVv (Y := m_X10_check) (pc := 69) (As := [.ref (b + 2), .ref (b + 1)]) yf_X10_setAside kX10 sM_0 (by decide +kernel) (ok_X10_setAside 2 1 q3.2 _ sM_2 sM_1 hq4) tw_1645 tw_62 tw_1643 rfl rfl (Nat.le_of_ble_eq_true rfl) dX10_check_69 ?_
        refine V_iload_n (Y := m_X10_check) (pc := 72) 2 dX10_check_72 rfl ?_
        refine V_aload_n (Y := m_X10_check) (pc := 73) 1 dX10_check_73 rfl ?_
        obtain ⟨q5, hq5, hf⟩ := g_bind hf
        refine V_cVi (Y := m_X10_check) (pc := 74) (As := []) yf_X10_surveyed kX10 sM_0 (by decide +kernel) (ok_X10_surveyed  q4.2 _  hq5) tw_1649 tw_63 tw_1647 rfl rfl (Nat.le_of_ble_eq_true rfl) dX10_check_74 ?_
        refine V_imul (Y := m_X10_check) (pc := 77) dX10_check_77 ?_
        refine V_istore (Y := m_X10_check) (pc := 78) [(4, .int (x1 * q5.1)), (3, .int (M 0 45)), (0, .ref (b + 0)), (1, .int x1), (2, .int x2)] dX10_check_78 (by decide +kernel) rfl ?_
        refine V_iconst (Y := m_X10_check) (pc := 80) (x := (0 : Int32)) dX10_check_80 (by decide +kernel) ?_
        refine V_istore (Y := m_X10_check) (pc := 81) [(5, .int (0 : Int32)), (4, .int (x1 * q5.1)), (3, .int (M 0 45)), (0, .ref (b + 0)), (1, .int x1), (2, .int x2)] dX10_check_81 (by decide +kernel) rfl ?_
        refine V_iconst (Y := m_X10_check) (pc := 83) (x := (0 : Int32)) dX10_check_83 (by decide +kernel) ?_
        refine V_istore (Y := m_X10_check) (pc := 84) [(6, .int (0 : Int32)), (5, .int (0 : Int32)), (4, .int (x1 * q5.1)), (3, .int (M 0 45)), (0, .ref (b + 0)), (1, .int x1), (2, .int x2)] dX10_check_84 (by decide +kernel) rfl ?_
        exact V_sub [4, 5, 6, 3, 2, 1, 0] rfl (ok_X10_check_b86  FU x1 x2 (M 0 45) (x1 * q5.1) (0 : Int32) (0 : Int32) q5.2 z  hf)
      · refine V_ldcw (Y := m_X10_check) (pc := 44) (x := (-1000000002 : Int32)) dX10_check_44 tw_1450 ?_
        obtain rfl := Option.some.inj hf
        exact V_iret (Y := m_X10_check) rfl dX10_check_47
    · refine V_ldc (Y := m_X10_check) (pc := 34) (x := (-1000000001 : Int32)) dX10_check_34 tw_1224 ?_
      obtain rfl := Option.some.inj hf
      exact V_iret (Y := m_X10_check) rfl dX10_check_36
def f_X10_check (x1 : Int32) (x2 : Int32) (M : Mem) : Option (Int32 × Mem) := f_X10_check_b0 x1 x2 M
set_option maxRecDepth 20000 in
set_option maxHeartbeats 4000000 in
theorem ok_X10_check {l : Launch} {g : Gam} {b : Nat} : ∀ (x1 : Int32) (x2 : Int32) (M : Mem) (z : Int32 × Mem), f_X10_check x1 x2 M = some z → Cn l g (wM b) m_X10_check [.ref (b + 0), .int x1, .int x2] M (some (.int z.1)) z.2 := fun x1 x2 M z  hf => Cn_of (by decide +kernel) (Nat.le_of_ble_eq_true rfl) (V_sub [0, 1, 2] rfl (ok_X10_check_b0 x1 x2 M z  hf))

abbrev m_X10_keep : Mth := (yX10_keep, cX10_keep, 1, some .int, 2)
theorem yf_X10_keep : YF m_X10_keep 0 := ⟨tw_1654, tw_75, by decide +kernel, by decide +kernel⟩
def f_X10_keep_b0   (M : Mem) : Option (Int32 × Mem) :=
  (f_X10_setAside 1 2 (mset M 0 3 (1 : Int32))).bind fun q1 =>
  some ((q1.2 1 0), q1.2)
set_option maxRecDepth 20000 in
set_option maxHeartbeats 4000000 in
theorem ok_X10_keep_b0 {l : Launch} {g : Gam} {b : Nat}    (M : Mem) (z : Int32 × Mem)  (hf : f_X10_keep_b0  M = some z) : V l g (wM b) m_X10_keep 0 [(0, .ref (b + 0))] [] M (some (.int z.1)) z.2 := by
  unfold f_X10_keep_b0 at hf
  refine V_aload_n (Y := m_X10_keep) (pc := 0) 0 dX10_keep_0 rfl ?_
  refine V_iconst (Y := m_X10_keep) (pc := 1) (x := (1 : Int32)) dX10_keep_1 (by decide +kernel) ?_
  refine V_pz (Y := m_X10_keep) (pc := 2) 3 kX10 sM_0 (by decide +kernel) rfl rfl rfl (by decide +kernel) tw_1073 dX10_keep_2 ?_
  refine V_aload_n (Y := m_X10_keep) (pc := 5) 0 dX10_keep_5 rfl ?_
  refine V_aload_n (Y := m_X10_keep) (pc := 6) 0 dX10_keep_6 rfl ?_
  refine V_grL (Y := m_X10_keep) (pc := 7) (x := 1) 0 kX10 sM_0 (by decide +kernel) rfl rfl tw_1070 dX10_keep_7 ?_
  refine V_aload_n (Y := m_X10_keep) (pc := 10) 0 dX10_keep_10 rfl ?_
  refine V_grL (Y := m_X10_keep) (pc := 11) (x := 2) 1 kX10 sM_0 (by decide +kernel) rfl rfl tw_1071 dX10_keep_11 ?_
  obtain ⟨q1, hq1, hf⟩ := g_bind hf
  refine V_cVv (Y := m_X10_keep) (pc := 14) (As := [.ref (b + 1), .ref (b + 2)]) yf_X10_setAside kX10 sM_0 (by decide +kernel) (ok_X10_setAside 1 2 (mset M 0 3 (1 : Int32)) _ sM_1 sM_2 hq1) tw_1645 tw_62 tw_1643 rfl rfl (Nat.le_of_ble_eq_true rfl) dX10_keep_14 ?_
  refine V_aload_n (Y := m_X10_keep) (pc := 17) 0 dX10_keep_17 rfl ?_
  refine V_grL (Y := m_X10_keep) (pc := 18) (x := 1) 0 kX10 sM_0 (by decide +kernel) rfl rfl tw_1070 dX10_keep_18 ?_
  refine V_iconst (Y := m_X10_keep) (pc := 21) (x := (0 : Int32)) dX10_keep_21 (by decide +kernel) ?_
  refine V_ialdL (Y := m_X10_keep) (pc := 22) (j := 0) sM_1 (by decide +kernel) rfl dX10_keep_22 ?_
  obtain rfl := Option.some.inj hf
  exact V_iret (Y := m_X10_keep) rfl dX10_keep_23
def f_X10_keep  (M : Mem) : Option (Int32 × Mem) := f_X10_keep_b0  M
set_option maxRecDepth 20000 in
set_option maxHeartbeats 4000000 in
theorem ok_X10_keep {l : Launch} {g : Gam} {b : Nat} : ∀  (M : Mem) (z : Int32 × Mem), f_X10_keep  M = some z → Cn l g (wM b) m_X10_keep [.ref (b + 0)] M (some (.int z.1)) z.2 := fun  M z  hf => Cn_of (by decide +kernel) (Nat.le_of_ble_eq_true rfl) (V_sub [0] rfl (ok_X10_keep_b0  M z  hf))

abbrev m_X10_back : Mth := (yX10_back, cX10_back, 1, some .int, 2)
theorem yf_X10_back : YF m_X10_back 0 := ⟨tw_1658, tw_75, by decide +kernel, by decide +kernel⟩
def f_X10_back_b0   (M : Mem) : Option (Int32 × Mem) :=
  if (M 0 3) = 0 then
    some ((-1000000002 : Int32), M)
  else
    (f_X10_setAside 2 1 M).bind fun q1 =>
    some ((q1.2 1 0), q1.2)
set_option maxRecDepth 20000 in
set_option maxHeartbeats 4000000 in
theorem ok_X10_back_b0 {l : Launch} {g : Gam} {b : Nat}    (M : Mem) (z : Int32 × Mem)  (hf : f_X10_back_b0  M = some z) : V l g (wM b) m_X10_back 0 [(0, .ref (b + 0))] [] M (some (.int z.1)) z.2 := by
  unfold f_X10_back_b0 at hf
  refine V_aload_n (Y := m_X10_back) (pc := 0) 0 dX10_back_0 rfl ?_
  refine V_gi (Y := m_X10_back) (pc := 1) 3 kX10 sM_0 (by decide +kernel) rfl tw_1073 dX10_back_1 ?_
  refine V_if_ne (Y := m_X10_back) (pc := 4) (tgt := 11) dX10_back_4 (by decide +kernel) hf (fun hf => ?_) (fun hf => ?_)
  · refine V_aload_n (Y := m_X10_back) (pc := 11) 0 dX10_back_11 rfl ?_
    refine V_aload_n (Y := m_X10_back) (pc := 12) 0 dX10_back_12 rfl ?_
    refine V_grL (Y := m_X10_back) (pc := 13) (x := 2) 1 kX10 sM_0 (by decide +kernel) rfl rfl tw_1071 dX10_back_13 ?_
    refine V_aload_n (Y := m_X10_back) (pc := 16) 0 dX10_back_16 rfl ?_
    refine V_grL (Y := m_X10_back) (pc := 17) (x := 1) 0 kX10 sM_0 (by decide +kernel) rfl rfl tw_1070 dX10_back_17 ?_
    obtain ⟨q1, hq1, hf⟩ := g_bind hf
    refine V_cVv (Y := m_X10_back) (pc := 20) (As := [.ref (b + 2), .ref (b + 1)]) yf_X10_setAside kX10 sM_0 (by decide +kernel) (ok_X10_setAside 2 1 M _ sM_2 sM_1 hq1) tw_1645 tw_62 tw_1643 rfl rfl (Nat.le_of_ble_eq_true rfl) dX10_back_20 ?_
    refine V_aload_n (Y := m_X10_back) (pc := 23) 0 dX10_back_23 rfl ?_
    refine V_grL (Y := m_X10_back) (pc := 24) (x := 1) 0 kX10 sM_0 (by decide +kernel) rfl rfl tw_1070 dX10_back_24 ?_
    refine V_iconst (Y := m_X10_back) (pc := 27) (x := (0 : Int32)) dX10_back_27 (by decide +kernel) ?_
    refine V_ialdL (Y := m_X10_back) (pc := 28) (j := 0) sM_1 (by decide +kernel) rfl dX10_back_28 ?_
    obtain rfl := Option.some.inj hf
    exact V_iret (Y := m_X10_back) rfl dX10_back_29
  · refine V_ldcw (Y := m_X10_back) (pc := 7) (x := (-1000000002 : Int32)) dX10_back_7 tw_1450 ?_
    obtain rfl := Option.some.inj hf
    exact V_iret (Y := m_X10_back) rfl dX10_back_10
def f_X10_back  (M : Mem) : Option (Int32 × Mem) := f_X10_back_b0  M
set_option maxRecDepth 20000 in
set_option maxHeartbeats 4000000 in
theorem ok_X10_back {l : Launch} {g : Gam} {b : Nat} : ∀  (M : Mem) (z : Int32 × Mem), f_X10_back  M = some z → Cn l g (wM b) m_X10_back [.ref (b + 0)] M (some (.int z.1)) z.2 := fun  M z  hf => Cn_of (by decide +kernel) (Nat.le_of_ble_eq_true rfl) (V_sub [0] rfl (ok_X10_back_b0  M z  hf))

abbrev m_X10_count : Mth := (yX10_count, cX10_count, 4, some .int, 2)
theorem yf_X10_count : YF m_X10_count 1 := ⟨tw_1662, tw_75, by decide +kernel, by decide +kernel⟩
def f_X10_count_b86 (k61 : Int32 → Int32 → Mem → Option (Int32 × Mem)) (x3 : Int32) (s0 : Int32) (s1 : Int32) (M : Mem) : Option (Int32 × Mem) :=
  k61 (s1 + s0) (x3 + (1 : Int32)) M
set_option maxRecDepth 20000 in
set_option maxHeartbeats 4000000 in
theorem ok_X10_count_b86 {l : Launch} {g : Gam} {b : Nat} (k61 : Int32 → Int32 → Mem → Option (Int32 × Mem)) (hk61 : ∀ (x2 : Int32) (x3 : Int32) (M : Mem) (z : Int32 × Mem), k61 x2 x3 M = some z → V l g (wM b) m_X10_count 61 [(0, .ref (b + 0)), (2, .int x2), (3, .int x3)] [] M (some (.int z.1)) z.2) (x3 : Int32) (s0 : Int32) (s1 : Int32) (M : Mem) (z : Int32 × Mem)  (hf : f_X10_count_b86 k61 x3 s0 s1 M = some z) : V l g (wM b) m_X10_count 86 [(0, .ref (b + 0)), (3, .int x3)] [.int s0, .int s1] M (some (.int z.1)) z.2 := by
  unfold f_X10_count_b86 at hf
  refine V_iadd (Y := m_X10_count) (pc := 86) dX10_count_86 ?_
  refine V_istore_n (Y := m_X10_count) (pc := 87) [(2, .int (s1 + s0)), (0, .ref (b + 0)), (3, .int x3)] dX10_count_87 (by decide +kernel) rfl ?_
  refine V_iinc (Y := m_X10_count) (pc := 88) (y := (x3 + (1 : Int32))) 2 [(3, .int (x3 + (1 : Int32))), (2, .int (s1 + s0)), (0, .ref (b + 0))] dX10_count_88 rfl rfl (by decide +kernel) rfl ?_
  refine V_goto (Y := m_X10_count) (pc := 91) (tgt := 61) dX10_count_91 (by decide +kernel) ?_
  exact V_sub [2, 1, 0] rfl (hk61 (s1 + s0) (x3 + (1 : Int32)) M z  hf)
def f_X10_count_b61  : Nat → Int32 → Int32 → Mem → Option (Int32 × Mem)
  | 0, _, _, _ => none
  | n + 1, x2, x3, M =>
    if (M 1 0) ≤ x3 then
      some (x2, M)
    else
      (f_X10_field x3 (5 : Int32) M).bind fun q1 =>
      if q1.1 < 0 then
        f_X10_count_b86 (f_X10_count_b61  n) x3 (0 : Int32) x2 q1.2
      else
        f_X10_count_b86 (f_X10_count_b61  n) x3 (1 : Int32) x2 q1.2
set_option maxRecDepth 20000 in
set_option maxHeartbeats 4000000 in
theorem ok_X10_count_b61 {l : Launch} {g : Gam} {b : Nat}   : ∀ (n : Nat) (x2 : Int32) (x3 : Int32) (M : Mem) (z : Int32 × Mem), f_X10_count_b61  n x2 x3 M = some z → V l g (wM b) m_X10_count 61 [(0, .ref (b + 0)), (2, .int x2), (3, .int x3)] [] M (some (.int z.1)) z.2 := by
  intro n
  induction n with
  | zero =>
    intro x2 x3 M z  hf
    cases hf
  | succ n ih =>
    intro x2 x3 M z  hf
    rw [f_X10_count_b61] at hf
    refine V_iload_n (Y := m_X10_count) (pc := 61) 2 dX10_count_61 rfl ?_
    refine V_aload_n (Y := m_X10_count) (pc := 62) 0 dX10_count_62 rfl ?_
    refine V_grL (Y := m_X10_count) (pc := 63) (x := 1) 0 kX10 sM_0 (by decide +kernel) rfl rfl tw_1070 dX10_count_63 ?_
    refine V_iconst (Y := m_X10_count) (pc := 66) (x := (0 : Int32)) dX10_count_66 (by decide +kernel) ?_
    refine V_ialdL (Y := m_X10_count) (pc := 67) (j := 0) sM_1 (by decide +kernel) rfl dX10_count_67 ?_
    refine V_icmp_ge (Y := m_X10_count) (pc := 68) (tgt := 94) dX10_count_68 (by decide +kernel) hf (fun hf => ?_) (fun hf => ?_)
    · refine V_iload_n (Y := m_X10_count) (pc := 94) 1 dX10_count_94 rfl ?_
      obtain rfl := Option.some.inj hf
      exact V_iret (Y := m_X10_count) rfl dX10_count_95
    · refine V_iload_n (Y := m_X10_count) (pc := 71) 1 dX10_count_71 rfl ?_
      refine V_aload_n (Y := m_X10_count) (pc := 72) 0 dX10_count_72 rfl ?_
      refine V_iload_n (Y := m_X10_count) (pc := 73) 2 dX10_count_73 rfl ?_
      refine V_iconst (Y := m_X10_count) (pc := 74) (x := (5 : Int32)) dX10_count_74 (by decide +kernel) ?_
      obtain ⟨q1, hq1, hf⟩ := g_bind hf
      refine V_cVi (Y := m_X10_count) (pc := 75) (As := [.int x3, .int (5 : Int32)]) yf_X10_field kX10 sM_0 (by decide +kernel) (ok_X10_field x3 (5 : Int32) M _  hq1) tw_1244 tw_20 tw_1242 rfl rfl (Nat.le_of_ble_eq_true rfl) dX10_count_75 ?_
      refine V_if_lt (Y := m_X10_count) (pc := 78) (tgt := 85) dX10_count_78 (by decide +kernel) hf (fun hf => ?_) (fun hf => ?_)
      · refine V_iconst (Y := m_X10_count) (pc := 85) (x := (0 : Int32)) dX10_count_85 (by decide +kernel) ?_
        exact V_sub [0, 2] rfl (ok_X10_count_b86 (f_X10_count_b61  n) ih x3 (0 : Int32) x2 q1.2 z  hf)
      · refine V_iconst (Y := m_X10_count) (pc := 81) (x := (1 : Int32)) dX10_count_81 (by decide +kernel) ?_
        refine V_goto (Y := m_X10_count) (pc := 82) (tgt := 86) dX10_count_82 (by decide +kernel) ?_
        exact V_sub [0, 2] rfl (ok_X10_count_b86 (f_X10_count_b61  n) ih x3 (1 : Int32) x2 q1.2 z  hf)
def f_X10_count_b0  (x1 : Int32) (M : Mem) : Option (Int32 × Mem) :=
  if x1 = (0 : Int32) then
    some ((M 1 0), M)
  else
  if x1 = (1 : Int32) then
    f_X10_count_b61  FU (0 : Int32) (0 : Int32) M
  else
  if x1 = (2 : Int32) then
    some ((M 1 1), M)
  else
  if x1 = (3 : Int32) then
    some ((M 1 2), M)
  else
  if x1 = (4 : Int32) then
    some ((M 1 3), M)
  else
  if x1 = (5 : Int32) then
    (f_X10_surveyed  M).bind fun q7 =>
    some (q7.1, q7.2)
  else
  if x1 = (6 : Int32) then
    some ((M 0 45), M)
  else
  if x1 = (7 : Int32) then
    some ((M 0 13), M)
  else
  if x1 = (8 : Int32) then
    some ((M 1 4), M)
  else
  some ((-1000000001 : Int32), M)
set_option maxRecDepth 20000 in
set_option maxHeartbeats 4000000 in
theorem ok_X10_count_b0 {l : Launch} {g : Gam} {b : Nat}   (x1 : Int32) (M : Mem) (z : Int32 × Mem)  (hf : f_X10_count_b0 x1 M = some z) : V l g (wM b) m_X10_count 0 [(0, .ref (b + 0)), (1, .int x1)] [] M (some (.int z.1)) z.2 := by
  unfold f_X10_count_b0 at hf
  refine V_iconst (Y := m_X10_count) (pc := 0) (x := (0 : Int32)) dX10_count_0 (by decide +kernel) ?_
  refine V_istore_n (Y := m_X10_count) (pc := 1) [(2, .int (0 : Int32)), (0, .ref (b + 0)), (1, .int x1)] dX10_count_1 (by decide +kernel) rfl ?_
  refine V_iload_n (Y := m_X10_count) (pc := 2) 2 dX10_count_2 rfl ?_
  by_cases hc1 : x1 = (0 : Int32)
  · rw [if_pos hc1] at hf
    refine V_tsw (Y := m_X10_count) (pc := 3) (tgt := 52) (0 : Int32) hc1 dX10_count_3 (by decide +kernel) ?_
    refine V_aload_n (Y := m_X10_count) (pc := 52) 1 dX10_count_52 rfl ?_
    refine V_grL (Y := m_X10_count) (pc := 53) (x := 1) 0 kX10 sM_0 (by decide +kernel) rfl rfl tw_1070 dX10_count_53 ?_
    refine V_iconst (Y := m_X10_count) (pc := 56) (x := (0 : Int32)) dX10_count_56 (by decide +kernel) ?_
    refine V_ialdL (Y := m_X10_count) (pc := 57) (j := 0) sM_1 (by decide +kernel) rfl dX10_count_57 ?_
    obtain rfl := Option.some.inj hf
    exact V_iret (Y := m_X10_count) rfl dX10_count_58
  rw [if_neg hc1] at hf
  by_cases hc2 : x1 = (1 : Int32)
  · rw [if_pos hc2] at hf
    refine V_tsw (Y := m_X10_count) (pc := 3) (tgt := 59) (1 : Int32) hc2 dX10_count_3 (by decide +kernel) ?_
    refine V_iconst (Y := m_X10_count) (pc := 59) (x := (0 : Int32)) dX10_count_59 (by decide +kernel) ?_
    refine V_istore_n (Y := m_X10_count) (pc := 60) [(3, .int (0 : Int32)), (2, .int (0 : Int32)), (0, .ref (b + 0)), (1, .int x1)] dX10_count_60 (by decide +kernel) rfl ?_
    exact V_sub [2, 1, 0] rfl (ok_X10_count_b61  FU (0 : Int32) (0 : Int32) M z  hf)
  rw [if_neg hc2] at hf
  by_cases hc3 : x1 = (2 : Int32)
  · rw [if_pos hc3] at hf
    refine V_tsw (Y := m_X10_count) (pc := 3) (tgt := 96) (2 : Int32) hc3 dX10_count_3 (by decide +kernel) ?_
    refine V_aload_n (Y := m_X10_count) (pc := 96) 1 dX10_count_96 rfl ?_
    refine V_grL (Y := m_X10_count) (pc := 97) (x := 1) 0 kX10 sM_0 (by decide +kernel) rfl rfl tw_1070 dX10_count_97 ?_
    refine V_iconst (Y := m_X10_count) (pc := 100) (x := (1 : Int32)) dX10_count_100 (by decide +kernel) ?_
    refine V_ialdL (Y := m_X10_count) (pc := 101) (j := 1) sM_1 (by decide +kernel) rfl dX10_count_101 ?_
    obtain rfl := Option.some.inj hf
    exact V_iret (Y := m_X10_count) rfl dX10_count_102
  rw [if_neg hc3] at hf
  by_cases hc4 : x1 = (3 : Int32)
  · rw [if_pos hc4] at hf
    refine V_tsw (Y := m_X10_count) (pc := 3) (tgt := 103) (3 : Int32) hc4 dX10_count_3 (by decide +kernel) ?_
    refine V_aload_n (Y := m_X10_count) (pc := 103) 1 dX10_count_103 rfl ?_
    refine V_grL (Y := m_X10_count) (pc := 104) (x := 1) 0 kX10 sM_0 (by decide +kernel) rfl rfl tw_1070 dX10_count_104 ?_
    refine V_iconst (Y := m_X10_count) (pc := 107) (x := (2 : Int32)) dX10_count_107 (by decide +kernel) ?_
    refine V_ialdL (Y := m_X10_count) (pc := 108) (j := 2) sM_1 (by decide +kernel) rfl dX10_count_108 ?_
    obtain rfl := Option.some.inj hf
    exact V_iret (Y := m_X10_count) rfl dX10_count_109
  rw [if_neg hc4] at hf
  by_cases hc5 : x1 = (4 : Int32)
  · rw [if_pos hc5] at hf
    refine V_tsw (Y := m_X10_count) (pc := 3) (tgt := 110) (4 : Int32) hc5 dX10_count_3 (by decide +kernel) ?_
    refine V_aload_n (Y := m_X10_count) (pc := 110) 1 dX10_count_110 rfl ?_
    refine V_grL (Y := m_X10_count) (pc := 111) (x := 1) 0 kX10 sM_0 (by decide +kernel) rfl rfl tw_1070 dX10_count_111 ?_
    refine V_iconst (Y := m_X10_count) (pc := 114) (x := (3 : Int32)) dX10_count_114 (by decide +kernel) ?_
    refine V_ialdL (Y := m_X10_count) (pc := 115) (j := 3) sM_1 (by decide +kernel) rfl dX10_count_115 ?_
    obtain rfl := Option.some.inj hf
    exact V_iret (Y := m_X10_count) rfl dX10_count_116
  rw [if_neg hc5] at hf
  by_cases hc6 : x1 = (5 : Int32)
  · rw [if_pos hc6] at hf
    refine V_tsw (Y := m_X10_count) (pc := 3) (tgt := 117) (5 : Int32) hc6 dX10_count_3 (by decide +kernel) ?_
    refine V_aload_n (Y := m_X10_count) (pc := 117) 1 dX10_count_117 rfl ?_
    obtain ⟨q7, hq7, hf⟩ := g_bind hf
    refine V_cVi (Y := m_X10_count) (pc := 118) (As := []) yf_X10_surveyed kX10 sM_0 (by decide +kernel) (ok_X10_surveyed  M _  hq7) tw_1649 tw_63 tw_1647 rfl rfl (Nat.le_of_ble_eq_true rfl) dX10_count_118 ?_
    obtain rfl := Option.some.inj hf
    exact V_iret (Y := m_X10_count) rfl dX10_count_121
  rw [if_neg hc6] at hf
  by_cases hc8 : x1 = (6 : Int32)
  · rw [if_pos hc8] at hf
    refine V_tsw (Y := m_X10_count) (pc := 3) (tgt := 122) (6 : Int32) hc8 dX10_count_3 (by decide +kernel) ?_
    refine V_aload_n (Y := m_X10_count) (pc := 122) 1 dX10_count_122 rfl ?_
    refine V_gi (Y := m_X10_count) (pc := 123) 45 kX10 sM_0 (by decide +kernel) rfl tw_1115 dX10_count_123 ?_
    obtain rfl := Option.some.inj hf
    exact V_iret (Y := m_X10_count) rfl dX10_count_126
  rw [if_neg hc8] at hf
  by_cases hc9 : x1 = (7 : Int32)
  · rw [if_pos hc9] at hf
    refine V_tsw (Y := m_X10_count) (pc := 3) (tgt := 127) (7 : Int32) hc9 dX10_count_3 (by decide +kernel) ?_
    refine V_aload_n (Y := m_X10_count) (pc := 127) 1 dX10_count_127 rfl ?_
    refine V_gi (Y := m_X10_count) (pc := 128) 13 kX10 sM_0 (by decide +kernel) rfl tw_1083 dX10_count_128 ?_
    obtain rfl := Option.some.inj hf
    exact V_iret (Y := m_X10_count) rfl dX10_count_131
  rw [if_neg hc9] at hf
  by_cases hc10 : x1 = (8 : Int32)
  · rw [if_pos hc10] at hf
    refine V_tsw (Y := m_X10_count) (pc := 3) (tgt := 132) (8 : Int32) hc10 dX10_count_3 (by decide +kernel) ?_
    refine V_aload_n (Y := m_X10_count) (pc := 132) 1 dX10_count_132 rfl ?_
    refine V_grL (Y := m_X10_count) (pc := 133) (x := 1) 0 kX10 sM_0 (by decide +kernel) rfl rfl tw_1070 dX10_count_133 ?_
    refine V_iconst (Y := m_X10_count) (pc := 136) (x := (4 : Int32)) dX10_count_136 (by decide +kernel) ?_
    refine V_ialdL (Y := m_X10_count) (pc := 137) (j := 4) sM_1 (by decide +kernel) rfl dX10_count_137 ?_
    obtain rfl := Option.some.inj hf
    exact V_iret (Y := m_X10_count) rfl dX10_count_138
  rw [if_neg hc10] at hf
  refine V_tswO (Y := m_X10_count) (pc := 3) (tgt := 139) [(0 : Int32), (1 : Int32), (2 : Int32), (3 : Int32), (4 : Int32), (5 : Int32), (6 : Int32), (7 : Int32), (8 : Int32)] (List.forall_mem_cons.mpr ⟨hc1, (List.forall_mem_cons.mpr ⟨hc2, (List.forall_mem_cons.mpr ⟨hc3, (List.forall_mem_cons.mpr ⟨hc4, (List.forall_mem_cons.mpr ⟨hc5, (List.forall_mem_cons.mpr ⟨hc6, (List.forall_mem_cons.mpr ⟨hc8, (List.forall_mem_cons.mpr ⟨hc9, (List.forall_mem_cons.mpr ⟨hc10, (fun _ h => absurd h List.not_mem_nil)⟩)⟩)⟩)⟩)⟩)⟩)⟩)⟩)⟩) dX10_count_3 (by decide +kernel) (by decide +kernel) ?_
  refine V_ldc (Y := m_X10_count) (pc := 139) (x := (-1000000001 : Int32)) dX10_count_139 tw_1224 ?_
  obtain rfl := Option.some.inj hf
  exact V_iret (Y := m_X10_count) rfl dX10_count_141
def f_X10_count (x1 : Int32) (M : Mem) : Option (Int32 × Mem) := f_X10_count_b0 x1 M
set_option maxRecDepth 20000 in
set_option maxHeartbeats 4000000 in
theorem ok_X10_count {l : Launch} {g : Gam} {b : Nat} : ∀ (x1 : Int32) (M : Mem) (z : Int32 × Mem), f_X10_count x1 M = some z → Cn l g (wM b) m_X10_count [.ref (b + 0), .int x1] M (some (.int z.1)) z.2 := fun x1 M z  hf => Cn_of (by decide +kernel) (Nat.le_of_ble_eq_true rfl) (V_sub [0, 1] rfl (ok_X10_count_b0 x1 M z  hf))

