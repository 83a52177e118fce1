abbrev m_X10_clock : Mth := (yX10_clock, cX10_clock, 10, some .int, 6)
theorem yf_X10_clock : YF m_X10_clock 3 := ⟨tw_1519, tw_75, by decide +kernel, by decide +kernel⟩
def f_X10_clock_b188  (x3 : Int32) (x4 : Int32) (x5 : Int32) (x6 : Int32) (M : Mem) : Option (Int32 × Mem) :=
  if x3 = 0 then
    some (x4, M)
  else
    if x4 = 0 then
      some ((-1000000005 : Int32), M)
    else
      if x3 = (1 : Int32) then
        some (x5, M)
      else
        some (x6, M)
set_option maxRecDepth 20000 in
set_option maxHeartbeats 4000000 in
theorem ok_X10_clock_b188 {l : Launch} {g : Gam} {b : Nat}   (x3 : Int32) (x4 : Int32) (x5 : Int32) (x6 : Int32) (M : Mem) (z : Int32 × Mem)  (hf : f_X10_clock_b188 x3 x4 x5 x6 M = some z) : V l g (wM b) m_X10_clock 188 [(3, .int x3), (4, .int x4), (5, .int x5), (6, .int x6)] [] M (some (.int z.1)) z.2 := by
  unfold f_X10_clock_b188 at hf
  refine V_iload_n (Y := m_X10_clock) (pc := 188) 0 dX10_clock_188 rfl ?_
  refine V_if_ne (Y := m_X10_clock) (pc := 189) (tgt := 197) dX10_clock_189 (by decide +kernel) hf (fun hf => ?_) (fun hf => ?_)
  · refine V_iload (Y := m_X10_clock) (pc := 197) 1 dX10_clock_197 rfl ?_
    refine V_if_ne (Y := m_X10_clock) (pc := 199) (tgt := 207) dX10_clock_199 (by decide +kernel) hf (fun hf => ?_) (fun hf => ?_)
    · refine V_iload_n (Y := m_X10_clock) (pc := 207) 0 dX10_clock_207 rfl ?_
      refine V_iconst (Y := m_X10_clock) (pc := 208) (x := (1 : Int32)) dX10_clock_208 (by decide +kernel) ?_
      refine V_icmp_ne (Y := m_X10_clock) (pc := 209) (tgt := 217) dX10_clock_209 (by decide +kernel) hf (fun hf => ?_) (fun hf => ?_)
      · refine V_iload (Y := m_X10_clock) (pc := 217) 3 dX10_clock_217 rfl ?_
        obtain rfl := Option.some.inj hf
        exact V_iret (Y := m_X10_clock) rfl dX10_clock_219
      · refine V_iload (Y := m_X10_clock) (pc := 212) 2 dX10_clock_212 rfl ?_
        refine V_goto (Y := m_X10_clock) (pc := 214) (tgt := 219) dX10_clock_214 (by decide +kernel) ?_
        obtain rfl := Option.some.inj hf
        exact V_iret (Y := m_X10_clock) rfl dX10_clock_219
    · refine V_ldc (Y := m_X10_clock) (pc := 202) (x := (-1000000005 : Int32)) dX10_clock_202 tw_1249 ?_
      refine V_goto (Y := m_X10_clock) (pc := 204) (tgt := 219) dX10_clock_204 (by decide +kernel) ?_
      obtain rfl := Option.some.inj hf
      exact V_iret (Y := m_X10_clock) rfl dX10_clock_219
  · refine V_iload (Y := m_X10_clock) (pc := 192) 1 dX10_clock_192 rfl ?_
    refine V_goto (Y := m_X10_clock) (pc := 194) (tgt := 219) dX10_clock_194 (by decide +kernel) ?_
    obtain rfl := Option.some.inj hf
    exact V_iret (Y := m_X10_clock) rfl dX10_clock_219
def f_X10_clock_b182 (k95 : Int32 → Int32 → Int32 → Int32 → Int32 → Int32 → Int32 → Mem → Option (Int32 × Mem)) (x1 : Int32) (x2 : Int32) (x3 : Int32) (x4 : Int32) (x5 : Int32) (x6 : Int32) (x7 : Int32) (M : Mem) : Option (Int32 × Mem) :=
  k95 x1 x2 x3 x4 x5 x6 (x7 + (1 : Int32)) M
set_option maxRecDepth 20000 in
set_option maxHeartbeats 4000000 in
theorem ok_X10_clock_b182 {l : Launch} {g : Gam} {b : Nat} (k95 : Int32 → Int32 → Int32 → Int32 → Int32 → Int32 → Int32 → Mem → Option (Int32 × Mem)) (hk95 : ∀ (x1 : Int32) (x2 : Int32) (x3 : Int32) (x4 : Int32) (x5 : Int32) (x6 : Int32) (x7 : Int32) (M : Mem) (z : Int32 × Mem), k95 x1 x2 x3 x4 x5 x6 x7 M = some z → V l g (wM b) m_X10_clock 95 [(0, .ref (b + 0)), (1, .int x1), (2, .int x2), (3, .int x3), (4, .int x4), (5, .int x5), (6, .int x6), (7, .int x7)] [] M (some (.int z.1)) z.2) (x1 : Int32) (x2 : Int32) (x3 : Int32) (x4 : Int32) (x5 : Int32) (x6 : Int32) (x7 : Int32) (M : Mem) (z : Int32 × Mem)  (hf : f_X10_clock_b182 k95 x1 x2 x3 x4 x5 x6 x7 M = some z) : V l g (wM b) m_X10_clock 182 [(0, .ref (b + 0)), (1, .int x1), (2, .int x2), (3, .int x3), (4, .int x4), (5, .int x5), (6, .int x6), (7, .int x7)] [] M (some (.int z.1)) z.2 := by
  unfold f_X10_clock_b182 at hf
  refine V_iinc (Y := m_X10_clock) (pc := 182) (y := (x7 + (1 : Int32))) 7 [(7, .int (x7 + (1 : Int32))), (0, .ref (b + 0)), (1, .int x1), (2, .int x2), (3, .int x3), (4, .int x4), (5, .int x5), (6, .int x6)] dX10_clock_182 rfl rfl (by decide +kernel) rfl ?_
  refine V_goto (Y := m_X10_clock) (pc := 185) (tgt := 95) dX10_clock_185 (by decide +kernel) ?_
  exact V_sub [1, 2, 3, 4, 5, 6, 7, 0] rfl (hk95 x1 x2 x3 x4 x5 x6 (x7 + (1 : Int32)) M z  hf)
def f_X10_clock_b173 (k95 : Int32 → Int32 → Int32 → Int32 → Int32 → Int32 → Int32 → Mem → Option (Int32 × Mem)) (x1 : Int32) (x2 : Int32) (x3 : Int32) (x4 : Int32) (x7 : Int32) (s0 : Int32) (M : Mem) : Option (Int32 × Mem) :=
  f_X10_clock_b182 k95 x1 x2 x3 (x4 + (1 : Int32)) s0 x7 x7 M
set_option maxRecDepth 20000 in
set_option maxHeartbeats 4000000 in
theorem ok_X10_clock_b173 {l : Launch} {g : Gam} {b : Nat} (k95 : Int32 → Int32 → Int32 → Int32 → Int32 → Int32 → Int32 → Mem → Option (Int32 × Mem)) (hk95 : ∀ (x1 : Int32) (x2 : Int32) (x3 : Int32) (x4 : Int32) (x5 : Int32) (x6 : Int32) (x7 : Int32) (M : Mem) (z : Int32 × Mem), k95 x1 x2 x3 x4 x5 x6 x7 M = some z → V l g (wM b) m_X10_clock 95 [(0, .ref (b + 0)), (1, .int x1), (2, .int x2), (3, .int x3), (4, .int x4), (5, .int x5), (6, .int x6), (7, .int x7)] [] M (some (.int z.1)) z.2) (x1 : Int32) (x2 : Int32) (x3 : Int32) (x4 : Int32) (x7 : Int32) (s0 : Int32) (M : Mem) (z : Int32 × Mem)  (hf : f_X10_clock_b173 k95 x1 x2 x3 x4 x7 s0 M = some z) : V l g (wM b) m_X10_clock 173 [(0, .ref (b + 0)), (1, .int x1), (2, .int x2), (3, .int x3), (4, .int x4), (7, .int x7)] [.int s0] M (some (.int z.1)) z.2 := by
  unfold f_X10_clock_b173 at hf
  refine V_istore (Y := m_X10_clock) (pc := 173) [(5, .int s0), (0, .ref (b + 0)), (1, .int x1), (2, .int x2), (3, .int x3), (4, .int x4), (7, .int x7)] dX10_clock_173 (by decide +kernel) rfl ?_
  refine V_iload (Y := m_X10_clock) (pc := 175) 6 dX10_clock_175 rfl ?_
  refine V_istore (Y := m_X10_clock) (pc := 177) [(6, .int x7), (5, .int s0), (0, .ref (b + 0)), (1, .int x1), (2, .int x2), (3, .int x3), (4, .int x4), (7, .int x7)] dX10_clock_177 (by decide +kernel) rfl ?_
  refine V_iinc (Y := m_X10_clock) (pc := 179) (y := (x4 + (1 : Int32))) 6 [(4, .int (x4 + (1 : Int32))), (6, .int x7), (5, .int s0), (0, .ref (b + 0)), (1, .int x1), (2, .int x2), (3, .int x3), (7, .int x7)] dX10_clock_179 rfl rfl (by decide +kernel) rfl ?_
  exact V_sub [3, 4, 5, 6, 0, 2, 1, 7] rfl (ok_X10_clock_b182 k95 hk95 x1 x2 x3 (x4 + (1 : Int32)) s0 x7 x7 M z  hf)
def f_X10_clock_b156 (k95 : Int32 → Int32 → Int32 → Int32 → Int32 → Int32 → Int32 → Mem → Option (Int32 × Mem)) (x1 : Int32) (x2 : Int32) (x3 : Int32) (x4 : Int32) (x5 : Int32) (x6 : Int32) (x7 : Int32) (x8 : Int32) (M : Mem) : Option (Int32 × Mem) :=
  if x8 = 0 then
    f_X10_clock_b182 k95 x1 x2 x3 x4 x5 x6 x7 M
  else
    if x4 = 0 then
      f_X10_clock_b173 k95 x1 x2 x3 x4 x7 x7 M
    else
      f_X10_clock_b173 k95 x1 x2 x3 x4 x7 x5 M
set_option maxRecDepth 20000 in
set_option maxHeartbeats 4000000 in
theorem ok_X10_clock_b156 {l : Launch} {g : Gam} {b : Nat} (k95 : Int32 → Int32 → Int32 → Int32 → Int32 → Int32 → Int32 → Mem → Option (Int32 × Mem)) (hk95 : ∀ (x1 : Int32) (x2 : Int32) (x3 : Int32) (x4 : Int32) (x5 : Int32) (x6 : Int32) (x7 : Int32) (M : Mem) (z : Int32 × Mem), k95 x1 x2 x3 x4 x5 x6 x7 M = some z → V l g (wM b) m_X10_clock 95 [(0, .ref (b + 0)), (1, .int x1), (2, .int x2), (3, .int x3), (4, .int x4), (5, .int x5), (6, .int x6), (7, .int x7)] [] M (some (.int z.1)) z.2) (x1 : Int32) (x2 : Int32) (x3 : Int32) (x4 : Int32) (x5 : Int32) (x6 : Int32) (x7 : Int32) (x8 : Int32) (M : Mem) (z : Int32 × Mem)  (hf : f_X10_clock_b156 k95 x1 x2 x3 x4 x5 x6 x7 x8 M = some z) : V l g (wM b) m_X10_clock 156 [(0, .ref (b + 0)), (1, .int x1), (2, .int x2), (3, .int x3), (4, .int x4), (5, .int x5), (6, .int x6), (7, .int x7), (8, .int x8)] [] M (some (.int z.1)) z.2 := by
  unfold f_X10_clock_b156 at hf
  refine V_iload (Y := m_X10_clock) (pc := 156) 8 dX10_clock_156 rfl ?_
  refine V_if_eq (Y := m_X10_clock) (pc := 158) (tgt := 182) dX10_clock_158 (by decide +kernel) hf (fun hf => ?_) (fun hf => ?_)
  · exact V_sub [0, 1, 2, 3, 4, 5, 6, 7] rfl (ok_X10_clock_b182 k95 hk95 x1 x2 x3 x4 x5 x6 x7 M z  hf)
  · refine V_iload (Y := m_X10_clock) (pc := 161) 4 dX10_clock_161 rfl ?_
    refine V_if_ne (Y := m_X10_clock) (pc := 163) (tgt := 171) dX10_clock_163 (by decide +kernel) hf (fun hf => ?_) (fun hf => ?_)
    · refine V_iload (Y := m_X10_clock) (pc := 171) 5 dX10_clock_171 rfl ?_
      exact V_sub [0, 1, 2, 3, 4, 7] rfl (ok_X10_clock_b173 k95 hk95 x1 x2 x3 x4 x7 x5 M z  hf)
    · refine V_iload (Y := m_X10_clock) (pc := 166) 7 dX10_clock_166 rfl ?_
      refine V_goto (Y := m_X10_clock) (pc := 168) (tgt := 173) dX10_clock_168 (by decide +kernel) ?_
      exact V_sub [0, 1, 2, 3, 4, 7] rfl (ok_X10_clock_b173 k95 hk95 x1 x2 x3 x4 x7 x7 M z  hf)
def f_X10_clock_b148 (k95 : Int32 → Int32 → Int32 → Int32 → Int32 → Int32 → Int32 → Mem → Option (Int32 × Mem)) (k108 : Int32 → Int32 → Int32 → Int32 → Int32 → Int32 → Int32 → Int32 → Int32 → Mem → Option (Int32 × Mem)) (x1 : Int32) (x2 : Int32) (x3 : Int32) (x4 : Int32) (x5 : Int32) (x6 : Int32) (x7 : Int32) (x9 : Int32) (s0 : Int32) (M : Mem) : Option (Int32 × Mem) :=
  k108 x1 x2 x3 x4 x5 x6 x7 s0 (x9 + (1 : Int32)) M
set_option maxRecDepth 20000 in
set_option maxHeartbeats 4000000 in
theorem ok_X10_clock_b148 {l : Launch} {g : Gam} {b : Nat} (k95 : Int32 → Int32 → Int32 → Int32 → Int32 → Int32 → Int32 → Mem → Option (Int32 × Mem)) (k108 : Int32 → Int32 → Int32 → Int32 → Int32 → Int32 → Int32 → Int32 → Int32 → Mem → Option (Int32 × Mem)) (hk95 : ∀ (x1 : Int32) (x2 : Int32) (x3 : Int32) (x4 : Int32) (x5 : Int32) (x6 : Int32) (x7 : Int32) (M : Mem) (z : Int32 × Mem), k95 x1 x2 x3 x4 x5 x6 x7 M = some z → V l g (wM b) m_X10_clock 95 [(0, .ref (b + 0)), (1, .int x1), (2, .int x2), (3, .int x3), (4, .int x4), (5, .int x5), (6, .int x6), (7, .int x7)] [] M (some (.int z.1)) z.2) (hk108 : ∀ (x1 : Int32) (x2 : Int32) (x3 : Int32) (x4 : Int32) (x5 : Int32) (x6 : Int32) (x7 : Int32) (x8 : Int32) (x9 : Int32) (M : Mem) (z : Int32 × Mem), k108 x1 x2 x3 x4 x5 x6 x7 x8 x9 M = some z → V l g (wM b) m_X10_clock 108 [(0, .ref (b + 0)), (1, .int x1), (2, .int x2), (3, .int x3), (4, .int x4), (5, .int x5), (6, .int x6), (7, .int x7), (8, .int x8), (9, .int x9)] [] M (some (.int z.1)) z.2) (x1 : Int32) (x2 : Int32) (x3 : Int32) (x4 : Int32) (x5 : Int32) (x6 : Int32) (x7 : Int32) (x9 : Int32) (s0 : Int32) (M : Mem) (z : Int32 × Mem)  (hf : f_X10_clock_b148 k95 k108 x1 x2 x3 x4 x5 x6 x7 x9 s0 M = some z) : V l g (wM b) m_X10_clock 148 [(0, .ref (b + 0)), (1, .int x1), (2, .int x2), (3, .int x3), (4, .int x4), (5, .int x5), (6, .int x6), (7, .int x7), (9, .int x9)] [.int s0] M (some (.int z.1)) z.2 := by
  unfold f_X10_clock_b148 at hf
  refine V_istore (Y := m_X10_clock) (pc := 148) [(8, .int s0), (0, .ref (b + 0)), (1, .int x1), (2, .int x2), (3, .int x3), (4, .int x4), (5, .int x5), (6, .int x6), (7, .int x7), (9, .int x9)] dX10_clock_148 (by decide +kernel) rfl ?_
  refine V_iinc (Y := m_X10_clock) (pc := 150) (y := (x9 + (1 : Int32))) 9 [(9, .int (x9 + (1 : Int32))), (8, .int s0), (0, .ref (b + 0)), (1, .int x1), (2, .int x2), (3, .int x3), (4, .int x4), (5, .int x5), (6, .int x6), (7, .int x7)] dX10_clock_150 rfl rfl (by decide +kernel) rfl ?_
  refine V_goto (Y := m_X10_clock) (pc := 153) (tgt := 108) dX10_clock_153 (by decide +kernel) ?_
  exact V_sub [2, 3, 4, 5, 6, 7, 8, 9, 1, 0] rfl (hk108 x1 x2 x3 x4 x5 x6 x7 s0 (x9 + (1 : Int32)) M z  hf)
def f_X10_clock_b143 (k95 : Int32 → Int32 → Int32 → Int32 → Int32 → Int32 → Int32 → Mem → Option (Int32 × Mem)) (k108 : Int32 → Int32 → Int32 → Int32 → Int32 → Int32 → Int32 → Int32 → Int32 → Mem → Option (Int32 × Mem)) (x1 : Int32) (x2 : Int32) (x3 : Int32) (x4 : Int32) (x5 : Int32) (x6 : Int32) (x7 : Int32) (x9 : Int32) (M : Mem) : Option (Int32 × Mem) :=
  f_X10_clock_b148 k95 k108 x1 x2 x3 x4 x5 x6 x7 x9 (1 : Int32) M
set_option maxRecDepth 20000 in
set_option maxHeartbeats 4000000 in
theorem ok_X10_clock_b143 {l : Launch} {g : Gam} {b : Nat} (k95 : Int32 → Int32 → Int32 → Int32 → Int32 → Int32 → Int32 → Mem → Option (Int32 × Mem)) (k108 : Int32 → Int32 → Int32 → Int32 → Int32 → Int32 → Int32 → Int32 → Int32 → Mem → Option (Int32 × Mem)) (hk95 : ∀ (x1 : Int32) (x2 : Int32) (x3 : Int32) (x4 : Int32) (x5 : Int32) (x6 : Int32) (x7 : Int32) (M : Mem) (z : Int32 × Mem), k95 x1 x2 x3 x4 x5 x6 x7 M = some z → V l g (wM b) m_X10_clock 95 [(0, .ref (b + 0)), (1, .int x1), (2, .int x2), (3, .int x3), (4, .int x4), (5, .int x5), (6, .int x6), (7, .int x7)] [] M (some (.int z.1)) z.2) (hk108 : ∀ (x1 : Int32) (x2 : Int32) (x3 : Int32) (x4 : Int32) (x5 : Int32) (x6 : Int32) (x7 : Int32) (x8 : Int32) (x9 : Int32) (M : Mem) (z : Int32 × Mem), k108 x1 x2 x3 x4 x5 x6 x7 x8 x9 M = some z → V l g (wM b) m_X10_clock 108 [(0, .ref (b + 0)), (1, .int x1), (2, .int x2), (3, .int x3), (4, .int x4), (5, .int x5), (6, .int x6), (7, .int x7), (8, .int x8), (9, .int x9)] [] M (some (.int z.1)) z.2) (x1 : Int32) (x2 : Int32) (x3 : Int32) (x4 : Int32) (x5 : Int32) (x6 : Int32) (x7 : Int32) (x9 : Int32) (M : Mem) (z : Int32 × Mem)  (hf : f_X10_clock_b143 k95 k108 x1 x2 x3 x4 x5 x6 x7 x9 M = some z) : V l g (wM b) m_X10_clock 143 [(0, .ref (b + 0)), (1, .int x1), (2, .int x2), (3, .int x3), (4, .int x4), (5, .int x5), (6, .int x6), (7, .int x7), (9, .int x9)] [] M (some (.int z.1)) z.2 := by
  unfold f_X10_clock_b143 at hf
  refine V_iconst (Y := m_X10_clock) (pc := 143) (x := (1 : Int32)) dX10_clock_143 (by decide +kernel) ?_
  refine V_goto (Y := m_X10_clock) (pc := 144) (tgt := 148) dX10_clock_144 (by decide +kernel) ?_
  exact V_sub [0, 1, 2, 3, 4, 5, 6, 7, 8] rfl (ok_X10_clock_b148 k95 k108 hk95 hk108 x1 x2 x3 x4 x5 x6 x7 x9 (1 : Int32) M z  hf)
def f_X10_clock_b108 (k95 : Int32 → Int32 → Int32 → Int32 → Int32 → Int32 → Int32 → Mem → Option (Int32 × Mem)) : Nat → Int32 → Int32 → Int32 → Int32 → Int32 → Int32 → Int32 → Int32 → Int32 → Mem → Option (Int32 × Mem)
  | 0, _, _, _, _, _, _, _, _, _, _ => none
  | n + 1, x1, x2, x3, x4, x5, x6, x7, x8, x9, M =>
    if (9 : Int32) ≤ x9 then
      f_X10_clock_b156 k95 x1 x2 x3 x4 x5 x6 x7 x8 M
    else
      if x8 = 0 then
        f_X10_clock_b156 k95 x1 x2 x3 x4 x5 x6 x7 x8 M
      else
        (f_X10_hasFix x9 x1 M).bind fun q1 =>
        if q1.1 = 0 then
          f_X10_clock_b143 k95 (f_X10_clock_b108 k95 n) x1 x2 x3 x4 x5 x6 x7 x9 q1.2
        else
          (f_X10_wouldHold x9 x1 x2 x7 q1.2).bind fun q2 =>
          if q2.1 = 0 then
            f_X10_clock_b148 k95 (f_X10_clock_b108 k95 n) x1 x2 x3 x4 x5 x6 x7 x9 (0 : Int32) q2.2
          else
            f_X10_clock_b143 k95 (f_X10_clock_b108 k95 n) x1 x2 x3 x4 x5 x6 x7 x9 q2.2
set_option maxRecDepth 20000 in
set_option maxHeartbeats 4000000 in
theorem ok_X10_clock_b108 {l : Launch} {g : Gam} {b : Nat} (k95 : Int32 → Int32 → Int32 → Int32 → Int32 → Int32 → Int32 → Mem → Option (Int32 × Mem)) (hk95 : ∀ (x1 : Int32) (x2 : Int32) (x3 : Int32) (x4 : Int32) (x5 : Int32) (x6 : Int32) (x7 : Int32) (M : Mem) (z : Int32 × Mem), k95 x1 x2 x3 x4 x5 x6 x7 M = some z → V l g (wM b) m_X10_clock 95 [(0, .ref (b + 0)), (1, .int x1), (2, .int x2), (3, .int x3), (4, .int x4), (5, .int x5), (6, .int x6), (7, .int x7)] [] M (some (.int z.1)) z.2) : ∀ (n : Nat) (x1 : Int32) (x2 : Int32) (x3 : Int32) (x4 : Int32) (x5 : Int32) (x6 : Int32) (x7 : Int32) (x8 : Int32) (x9 : Int32) (M : Mem) (z : Int32 × Mem), f_X10_clock_b108 k95 n x1 x2 x3 x4 x5 x6 x7 x8 x9 M = some z → V l g (wM b) m_X10_clock 108 [(0, .ref (b + 0)), (1, .int x1), (2, .int x2), (3, .int x3), (4, .int x4), (5, .int x5), (6, .int x6), (7, .int x7), (8, .int x8), (9, .int x9)] [] M (some (.int z.1)) z.2 := by
  intro n
  induction n with
  | zero =>
    intro x1 x2 x3 x4 x5 x6 x7 x8 x9 M z  hf
    cases hf
  | succ n ih =>
    intro x1 x2 x3 x4 x5 x6 x7 x8 x9 M z  hf
    rw [f_X10_clock_b108] at hf
    refine V_iload (Y := m_X10_clock) (pc := 108) 9 dX10_clock_108 rfl ?_
    refine V_bipush (Y := m_X10_clock) (pc := 110) (x := (9 : Int32)) dX10_clock_110 (by decide +kernel) ?_
    refine V_icmp_ge (Y := m_X10_clock) (pc := 112) (tgt := 156) dX10_clock_112 (by decide +kernel) hf (fun hf => ?_) (fun hf => ?_)
    · exact V_sub [0, 1, 2, 3, 4, 5, 6, 7, 8] rfl (ok_X10_clock_b156 k95 hk95 x1 x2 x3 x4 x5 x6 x7 x8 M z  hf)
    · refine V_iload (Y := m_X10_clock) (pc := 115) 8 dX10_clock_115 rfl ?_
      refine V_if_eq (Y := m_X10_clock) (pc := 117) (tgt := 156) dX10_clock_117 (by decide +kernel) hf (fun hf => ?_) (fun hf => ?_)
      · exact V_sub [0, 1, 2, 3, 4, 5, 6, 7, 8] rfl (ok_X10_clock_b156 k95 hk95 x1 x2 x3 x4 x5 x6 x7 x8 M z  hf)
      · refine V_aload_n (Y := m_X10_clock) (pc := 120) 0 dX10_clock_120 rfl ?_
        refine V_iload (Y := m_X10_clock) (pc := 121) 9 dX10_clock_121 rfl ?_
        refine V_iload_n (Y := m_X10_clock) (pc := 123) 1 dX10_clock_123 rfl ?_
        obtain ⟨q1, hq1, hf⟩ := g_bind hf
        refine V_cVi (Y := m_X10_clock) (pc := 124) (As := [.int x9, .int x1]) yf_X10_hasFix kX10 sM_0 (by decide +kernel) (ok_X10_hasFix x9 x1 M _  hq1) tw_1522 tw_55 tw_1520 rfl rfl (Nat.le_of_ble_eq_true rfl) dX10_clock_124 ?_
        refine V_if_eq (Y := m_X10_clock) (pc := 127) (tgt := 143) dX10_clock_127 (by decide +kernel) hf (fun hf => ?_) (fun hf => ?_)
        · exact V_sub [0, 1, 2, 3, 4, 5, 6, 7, 9] rfl (ok_X10_clock_b143 k95 (f_X10_clock_b108 k95 n) hk95 ih x1 x2 x3 x4 x5 x6 x7 x9 q1.2 z  hf)
        · refine V_aload_n (Y := m_X10_clock) (pc := 130) 0 dX10_clock_130 rfl ?_
          refine V_iload (Y := m_X10_clock) (pc := 131) 9 dX10_clock_131 rfl ?_
          refine V_iload_n (Y := m_X10_clock) (pc := 133) 1 dX10_clock_133 rfl ?_
          refine V_iload_n (Y := m_X10_clock) (pc := 134) 2 dX10_clock_134 rfl ?_
          refine V_iload (Y := m_X10_clock) (pc := 135) 7 dX10_clock_135 rfl ?_
          obtain ⟨q2, hq2, hf⟩ := g_bind hf
          refine V_cVi (Y := m_X10_clock) (pc := 137) (As := [.int x9, .int x1, .int x2, .int x7]) yf_X10_wouldHold kX10 sM_0 (by decide +kernel) (ok_X10_wouldHold x9 x1 x2 x7 q1.2 _  hq2) tw_1530 tw_57 tw_1528 rfl rfl (Nat.le_of_ble_eq_true rfl) dX10_clock_137 ?_
          refine V_if_eq (Y := m_X10_clock) (pc := 140) (tgt := 147) dX10_clock_140 (by decide +kernel) hf (fun hf => ?_) (fun hf => ?_)
          · refine V_iconst (Y := m_X10_clock) (pc := 147) (x := (0 : Int32)) dX10_clock_147 (by decide +kernel) ?_
            exact V_sub [0, 1, 2, 3, 4, 5, 6, 7, 9] rfl (ok_X10_clock_b148 k95 (f_X10_clock_b108 k95 n) hk95 ih x1 x2 x3 x4 x5 x6 x7 x9 (0 : Int32) q2.2 z  hf)
          · exact V_sub [0, 1, 2, 3, 4, 5, 6, 7, 9] rfl (ok_X10_clock_b143 k95 (f_X10_clock_b108 k95 n) hk95 ih x1 x2 x3 x4 x5 x6 x7 x9 q2.2 z  hf)
def f_X10_clock_b95  : Nat → Int32 → Int32 → Int32 → Int32 → Int32 → Int32 → Int32 → Mem → Option (Int32 × Mem)
  | 0, _, _, _, _, _, _, _, _ => none
  | n + 1, x1, x2, x3, x4, x5, x6, x7, M =>
    if (50 : Int32) < x7 then
      f_X10_clock_b188  x3 x4 x5 x6 M
    else
      f_X10_clock_b108 (f_X10_clock_b95  n) FU x1 x2 x3 x4 x5 x6 x7 (1 : Int32) (0 : Int32) M
set_option maxRecDepth 20000 in
set_option maxHeartbeats 4000000 in
theorem ok_X10_clock_b95 {l : Launch} {g : Gam} {b : Nat}   : ∀ (n : Nat) (x1 : Int32) (x2 : Int32) (x3 : Int32) (x4 : Int32) (x5 : Int32) (x6 : Int32) (x7 : Int32) (M : Mem) (z : Int32 × Mem), f_X10_clock_b95  n x1 x2 x3 x4 x5 x6 x7 M = some z → V l g (wM b) m_X10_clock 95 [(0, .ref (b + 0)), (1, .int x1), (2, .int x2), (3, .int x3), (4, .int x4), (5, .int x5), (6, .int x6), (7, .int x7)] [] M (some (.int z.1)) z.2 := by
  intro n
  induction n with
  | zero =>
    intro x1 x2 x3 x4 x5 x6 x7 M z  hf
    cases hf
  | succ n ih =>
    intro x1 x2 x3 x4 x5 x6 x7 M z  hf
    rw [f_X10_clock_b95] at hf
    refine V_iload (Y := m_X10_clock) (pc := 95) 7 dX10_clock_95 rfl ?_
    refine V_bipush (Y := m_X10_clock) (pc := 97) (x := (50 : Int32)) dX10_clock_97 (by decide +kernel) ?_
    refine V_icmp_gt (Y := m_X10_clock) (pc := 99) (tgt := 188) dX10_clock_99 (by decide +kernel) hf (fun hf => ?_) (fun hf => ?_)
    · exact V_sub [3, 4, 5, 6] rfl (ok_X10_clock_b188  x3 x4 x5 x6 M z  hf)
    · refine V_iconst (Y := m_X10_clock) (pc := 102) (x := (1 : Int32)) dX10_clock_102 (by decide +kernel) ?_
      refine V_istore (Y := m_X10_clock) (pc := 103) [(8, .int (1 : Int32)), (0, .ref (b + 0)), (1, .int x1), (2, .int x2), (3, .int x3), (4, .int x4), (5, .int x5), (6, .int x6), (7, .int x7)] dX10_clock_103 (by decide +kernel) rfl ?_
      refine V_iconst (Y := m_X10_clock) (pc := 105) (x := (0 : Int32)) dX10_clock_105 (by decide +kernel) ?_
      refine V_istore (Y := m_X10_clock) (pc := 106) [(9, .int (0 : Int32)), (8, .int (1 : Int32)), (0, .ref (b + 0)), (1, .int x1), (2, .int x2), (3, .int x3), (4, .int x4), (5, .int x5), (6, .int x6), (7, .int x7)] dX10_clock_106 (by decide +kernel) rfl ?_
      exact V_sub [2, 3, 4, 5, 6, 7, 8, 9, 1, 0] rfl (ok_X10_clock_b108 (f_X10_clock_b95  n) ih FU x1 x2 x3 x4 x5 x6 x7 (1 : Int32) (0 : Int32) M z  hf)
def f_X10_clock_b82  (x1 : Int32) (x2 : Int32) (x3 : Int32) (M : Mem) : Option (Int32 × Mem) :=
  f_X10_clock_b95  FU x1 x2 x3 (0 : Int32) (0 : Int32) (0 : Int32) (-50 : Int32) M
set_option maxRecDepth 20000 in
set_option maxHeartbeats 4000000 in
theorem ok_X10_clock_b82 {l : Launch} {g : Gam} {b : Nat}   (x1 : Int32) (x2 : Int32) (x3 : Int32) (M : Mem) (z : Int32 × Mem)  (hf : f_X10_clock_b82 x1 x2 x3 M = some z) : V l g (wM b) m_X10_clock 82 [(0, .ref (b + 0)), (1, .int x1), (2, .int x2), (3, .int x3)] [] M (some (.int z.1)) z.2 := by
  unfold f_X10_clock_b82 at hf
  refine V_iconst (Y := m_X10_clock) (pc := 82) (x := (0 : Int32)) dX10_clock_82 (by decide +kernel) ?_
  refine V_istore (Y := m_X10_clock) (pc := 83) [(4, .int (0 : Int32)), (0, .ref (b + 0)), (1, .int x1), (2, .int x2), (3, .int x3)] dX10_clock_83 (by decide +kernel) rfl ?_
  refine V_iconst (Y := m_X10_clock) (pc := 85) (x := (0 : Int32)) dX10_clock_85 (by decide +kernel) ?_
  refine V_istore (Y := m_X10_clock) (pc := 86) [(5, .int (0 : Int32)), (4, .int (0 : Int32)), (0, .ref (b + 0)), (1, .int x1), (2, .int x2), (3, .int x3)] dX10_clock_86 (by decide +kernel) rfl ?_
  refine V_iconst (Y := m_X10_clock) (pc := 88) (x := (0 : Int32)) dX10_clock_88 (by decide +kernel) ?_
  refine V_istore (Y := m_X10_clock) (pc := 89) [(6, .int (0 : Int32)), (5, .int (0 : Int32)), (4, .int (0 : Int32)), (0, .ref (b + 0)), (1, .int x1), (2, .int x2), (3, .int x3)] dX10_clock_89 (by decide +kernel) rfl ?_
  refine V_bipush (Y := m_X10_clock) (pc := 91) (x := (-50 : Int32)) dX10_clock_91 (by decide +kernel) ?_
  refine V_istore (Y := m_X10_clock) (pc := 93) [(7, .int (-50 : Int32)), (6, .int (0 : Int32)), (5, .int (0 : Int32)), (4, .int (0 : Int32)), (0, .ref (b + 0)), (1, .int x1), (2, .int x2), (3, .int x3)] dX10_clock_93 (by decide +kernel) rfl ?_
  exact V_sub [4, 5, 6, 7, 3, 2, 1, 0] rfl (ok_X10_clock_b95  FU x1 x2 x3 (0 : Int32) (0 : Int32) (0 : Int32) (-50 : Int32) M z  hf)
def f_X10_clock_b37  : Nat → Int32 → Int32 → Int32 → Int32 → Mem → Option (Int32 × Mem)
  | 0, _, _, _, _, _ => none
  | n + 1, x1, x2, x3, x4, M =>
    if (M 1 0) ≤ x4 then
      f_X10_clock_b82  x1 x2 x3 M
    else
      (f_X10_says x4 M).bind fun q1 =>
      if ixb x4 24 = true then
      (f_X10_byLaw x4 (2 : Int32) (0 : Int32) (mset q1.2 18 (ix x4) q1.1)).bind fun q3 =>
      if ixb x4 24 = true then
      f_X10_clock_b37  n x1 x2 x3 (x4 + (1 : Int32)) (mset q3.2 19 (ix x4) q3.1)
      else none
      else none
set_option maxRecDepth 20000 in
set_option maxHeartbeats 4000000 in
theorem ok_X10_clock_b37 {l : Launch} {g : Gam} {b : Nat}   : ∀ (n : Nat) (x1 : Int32) (x2 : Int32) (x3 : Int32) (x4 : Int32) (M : Mem) (z : Int32 × Mem), f_X10_clock_b37  n x1 x2 x3 x4 M = some z → V l g (wM b) m_X10_clock 37 [(0, .ref (b + 0)), (1, .int x1), (2, .int x2), (3, .int x3), (4, .int x4)] [] M (some (.int z.1)) z.2 := by
  intro n
  induction n with
  | zero =>
    intro x1 x2 x3 x4 M z  hf
    cases hf
  | succ n ih =>
    intro x1 x2 x3 x4 M z  hf
    rw [f_X10_clock_b37] at hf
    refine V_iload (Y := m_X10_clock) (pc := 37) 4 dX10_clock_37 rfl ?_
    refine V_aload_n (Y := m_X10_clock) (pc := 39) 0 dX10_clock_39 rfl ?_
    refine V_grL (Y := m_X10_clock) (pc := 40) (x := 1) 0 kX10 sM_0 (by decide +kernel) rfl rfl tw_1070 dX10_clock_40 ?_
    refine V_iconst (Y := m_X10_clock) (pc := 43) (x := (0 : Int32)) dX10_clock_43 (by decide +kernel) ?_
    refine V_ialdL (Y := m_X10_clock) (pc := 44) (j := 0) sM_1 (by decide +kernel) rfl dX10_clock_44 ?_
    refine V_icmp_ge (Y := m_X10_clock) (pc := 45) (tgt := 82) dX10_clock_45 (by decide +kernel) hf (fun hf => ?_) (fun hf => ?_)
    · exact V_sub [0, 1, 2, 3] rfl (ok_X10_clock_b82  x1 x2 x3 M z  hf)
    · refine V_aload_n (Y := m_X10_clock) (pc := 48) 0 dX10_clock_48 rfl ?_
      refine V_grL (Y := m_X10_clock) (pc := 49) (x := 18) 38 kX10 sM_0 (by decide +kernel) rfl rfl tw_1108 dX10_clock_49 ?_
      refine V_iload (Y := m_X10_clock) (pc := 52) 4 dX10_clock_52 rfl ?_
      refine V_aload_n (Y := m_X10_clock) (pc := 54) 0 dX10_clock_54 rfl ?_
      refine V_iload (Y := m_X10_clock) (pc := 55) 4 dX10_clock_55 rfl ?_
      obtain ⟨q1, hq1, hf⟩ := g_bind hf
      refine V_cVi (Y := m_X10_clock) (pc := 57) (As := [.int x4]) yf_X10_says kX10 sM_0 (by decide +kernel) (ok_X10_says x4 M _  hq1) tw_1252 tw_21 tw_1250 rfl rfl (Nat.le_of_ble_eq_true rfl) dX10_clock_57 ?_
      obtain ⟨hi2, hf⟩ := g_if hf
      refine V_iast (Y := m_X10_clock) (pc := 60) sM_18 hi2 dX10_clock_60 ?_
      refine V_aload_n (Y := m_X10_clock) (pc := 61) 0 dX10_clock_61 rfl ?_
      refine V_grL (Y := m_X10_clock) (pc := 62) (x := 19) 39 kX10 sM_0 (by decide +kernel) rfl rfl tw_1109 dX10_clock_62 ?_
      refine V_iload (Y := m_X10_clock) (pc := 65) 4 dX10_clock_65 rfl ?_
      refine V_aload_n (Y := m_X10_clock) (pc := 67) 0 dX10_clock_67 rfl ?_
      refine V_iload (Y := m_X10_clock) (pc := 68) 4 dX10_clock_68 rfl ?_
      refine V_iconst (Y := m_X10_clock) (pc := 70) (x := (2 : Int32)) dX10_clock_70 (by decide +kernel) ?_
      refine V_iconst (Y := m_X10_clock) (pc := 71) (x := (0 : Int32)) dX10_clock_71 (by decide +kernel) ?_
      obtain ⟨q3, hq3, hf⟩ := g_bind hf
      refine V_cVi (Y := m_X10_clock) (pc := 72) (As := [.int x4, .int (2 : Int32), .int (0 : Int32)]) yf_X10_byLaw kX10 sM_0 (by decide +kernel) (ok_X10_byLaw x4 (2 : Int32) (0 : Int32) (mset q1.2 18 (ix x4) q1.1) _  hq3) tw_1260 tw_23 tw_1258 rfl rfl (Nat.le_of_ble_eq_true rfl) dX10_clock_72 ?_
      obtain ⟨hi4, hf⟩ := g_if hf
      refine V_iast (Y := m_X10_clock) (pc := 75) sM_19 hi4 dX10_clock_75 ?_
      refine V_iinc (Y := m_X10_clock) (pc := 76) (y := (x4 + (1 : Int32))) 4 [(4, .int (x4 + (1 : Int32))), (0, .ref (b + 0)), (1, .int x1), (2, .int x2), (3, .int x3)] dX10_clock_76 rfl rfl (by decide +kernel) rfl ?_
      refine V_goto (Y := m_X10_clock) (pc := 79) (tgt := 37) dX10_clock_79 (by decide +kernel) ?_
      exact V_sub [1, 2, 3, 4, 0] rfl (ih x1 x2 x3 (x4 + (1 : Int32)) (mset q3.2 19 (ix x4) q3.1) z  hf)
def f_X10_clock_b0  (x1 : Int32) (x2 : Int32) (x3 : Int32) (M : Mem) : Option (Int32 × Mem) :=
  (f_X10_isVoyage x1 M).bind fun q1 =>
  if q1.1 = 0 then
    some ((-1000000001 : Int32), q1.2)
  else
    (f_X10_isIn x2.toInt64 (0 : Int64) (99 : Int64) q1.2).bind fun q2 =>
    if q2.1 = 0 then
      some ((-1000000001 : Int32), q2.2)
    else
      (f_X10_isIn x3.toInt64 (0 : Int64) (2 : Int64) q2.2).bind fun q3 =>
      if q3.1 = 0 then
        some ((-1000000001 : Int32), q3.2)
      else
        f_X10_clock_b37  FU x1 x2 x3 (0 : Int32) q3.2
set_option maxRecDepth 20000 in
set_option maxHeartbeats 4000000 in
theorem ok_X10_clock_b0 {l : Launch} {g : Gam} {b : Nat}   (x1 : Int32) (x2 : Int32) (x3 : Int32) (M : Mem) (z : Int32 × Mem)  (hf : f_X10_clock_b0 x1 x2 x3 M = some z) : V l g (wM b) m_X10_clock 0 [(0, .ref (b + 0)), (1, .int x1), (2, .int x2), (3, .int x3)] [] M (some (.int z.1)) z.2 := by
  unfold f_X10_clock_b0 at hf
  refine V_iload_n (Y := m_X10_clock) (pc := 0) 1 dX10_clock_0 rfl ?_
  obtain ⟨q1, hq1, hf⟩ := g_bind hf
  refine V_cSi (Y := m_X10_clock) (pc := 1) (As := [.int x1]) yf_X10_isVoyage (by decide +kernel) (ok_X10_isVoyage x1 M _  hq1) tw_1411 tw_1410 rfl rfl (Nat.le_of_ble_eq_true rfl) dX10_clock_1 ?_
  refine V_if_eq (Y := m_X10_clock) (pc := 4) (tgt := 31) dX10_clock_4 (by decide +kernel) hf (fun hf => ?_) (fun hf => ?_)
  · refine V_ldc (Y := m_X10_clock) (pc := 31) (x := (-1000000001 : Int32)) dX10_clock_31 tw_1224 ?_
    obtain rfl := Option.some.inj hf
    exact V_iret (Y := m_X10_clock) rfl dX10_clock_33
  · refine V_iload_n (Y := m_X10_clock) (pc := 7) 2 dX10_clock_7 rfl ?_
    refine V_i2l (Y := m_X10_clock) (pc := 8) dX10_clock_8 ?_
    refine V_lconst (Y := m_X10_clock) (pc := 9) (x := (0 : Int64)) dX10_clock_9 (by decide +kernel) ?_
    refine V_ldc2 (Y := m_X10_clock) (pc := 10) (x := (99 : Int64)) dX10_clock_10 tw_1223 ?_
    obtain ⟨q2, hq2, hf⟩ := g_bind hf
    refine V_cSi (Y := m_X10_clock) (pc := 13) (As := [.long x2.toInt64, .long (0 : Int64), .long (99 : Int64)]) yf_X10_isIn (by decide +kernel) (ok_X10_isIn x2.toInt64 (0 : Int64) (99 : Int64) q1.2 _  hq2) tw_1218 tw_1217 rfl rfl (Nat.le_of_ble_eq_true rfl) dX10_clock_13 ?_
    refine V_if_eq (Y := m_X10_clock) (pc := 16) (tgt := 31) dX10_clock_16 (by decide +kernel) hf (fun hf => ?_) (fun hf => ?_)
    · refine V_ldc (Y := m_X10_clock) (pc := 31) (x := (-1000000001 : Int32)) dX10_clock_31 tw_1224 ?_
      obtain rfl := Option.some.inj hf
      exact V_iret (Y := m_X10_clock) rfl dX10_clock_33
    · refine V_iload_n (Y := m_X10_clock) (pc := 19) 3 dX10_clock_19 rfl ?_
      refine V_i2l (Y := m_X10_clock) (pc := 20) dX10_clock_20 ?_
      refine V_lconst (Y := m_X10_clock) (pc := 21) (x := (0 : Int64)) dX10_clock_21 (by decide +kernel) ?_
      refine V_ldc2 (Y := m_X10_clock) (pc := 22) (x := (2 : Int64)) dX10_clock_22 tw_1405 ?_
      obtain ⟨q3, hq3, hf⟩ := g_bind hf
      refine V_cSi (Y := m_X10_clock) (pc := 25) (As := [.long x3.toInt64, .long (0 : Int64), .long (2 : Int64)]) yf_X10_isIn (by decide +kernel) (ok_X10_isIn x3.toInt64 (0 : Int64) (2 : Int64) q2.2 _  hq3) tw_1218 tw_1217 rfl rfl (Nat.le_of_ble_eq_true rfl) dX10_clock_25 ?_
      refine V_if_ne (Y := m_X10_clock) (pc := 28) (tgt := 34) dX10_clock_28 (by decide +kernel) hf (fun hf => ?_) (fun hf => ?_)
      · refine V_iconst (Y := m_X10_clock) (pc := 34) (x := (0 : Int32)) dX10_clock_34 (by decide +kernel) ?_
        refine V_istore (Y := m_X10_clock) (pc := 35) [(4, .int (0 : Int32)), (0, .ref (b + 0)), (1, .int x1), (2, .int x2), (3, .int x3)] dX10_clock_35 (by decide +kernel) rfl ?_
        exact V_sub [1, 2, 3, 4, 0] rfl (ok_X10_clock_b37  FU x1 x2 x3 (0 : Int32) q3.2 z  hf)
      · refine V_ldc (Y := m_X10_clock) (pc := 31) (x := (-1000000001 : Int32)) dX10_clock_31 tw_1224 ?_
        obtain rfl := Option.some.inj hf
        exact V_iret (Y := m_X10_clock) rfl dX10_clock_33
def f_X10_clock (x1 : Int32) (x2 : Int32) (x3 : Int32) (M : Mem) : Option (Int32 × Mem) := f_X10_clock_b0 x1 x2 x3 M
set_option maxRecDepth 20000 in
set_option maxHeartbeats 4000000 in
theorem ok_X10_clock {l : Launch} {g : Gam} {b : Nat} : ∀ (x1 : Int32) (x2 : Int32) (x3 : Int32) (M : Mem) (z : Int32 × Mem), f_X10_clock x1 x2 x3 M = some z → Cn l g (wM b) m_X10_clock [.ref (b + 0), .int x1, .int x2, .int x3] M (some (.int z.1)) z.2 := fun x1 x2 x3 M z  hf => Cn_of (by decide +kernel) (Nat.le_of_ble_eq_true rfl) (V_sub [0, 1, 2, 3] rfl (ok_X10_clock_b0 x1 x2 x3 M z  hf))

abbrev m_X10_isSheet : Mth := (yX10_isSheet, cX10_isSheet, 1, some .boolean, 2)
theorem yf_X10_isSheet : YF m_X10_isSheet 1 := ⟨tw_1538, tw_75, by decide +kernel, by decide +kernel⟩
def f_X10_isSheet_b0  (x0 : Int32) (M : Mem) : Option (Int32 × Mem) :=
  (f_X10_isIn x0.toInt64 (0 : Int64) (3 : Int64) M).bind fun q1 =>
  if z01 q1.1 = true then some (q1.1, q1.2) else none
set_option maxRecDepth 20000 in
set_option maxHeartbeats 4000000 in
theorem ok_X10_isSheet_b0 {l : Launch} {g : Gam} {b : Nat}   (x0 : Int32) (M : Mem) (z : Int32 × Mem)  (hf : f_X10_isSheet_b0 x0 M = some z) : V l g (wM b) m_X10_isSheet 0 [(0, .int x0)] [] M (some (.int z.1)) z.2 := by
  unfold f_X10_isSheet_b0 at hf
  refine V_iload_n (Y := m_X10_isSheet) (pc := 0) 0 dX10_isSheet_0 rfl ?_
  refine V_i2l (Y := m_X10_isSheet) (pc := 1) dX10_isSheet_1 ?_
  refine V_lconst (Y := m_X10_isSheet) (pc := 2) (x := (0 : Int64)) dX10_isSheet_2 (by decide +kernel) ?_
  refine V_ldc2 (Y := m_X10_isSheet) (pc := 3) (x := (3 : Int64)) dX10_isSheet_3 tw_1493 ?_
  obtain ⟨q1, hq1, hf⟩ := g_bind hf
  refine V_cSi (Y := m_X10_isSheet) (pc := 6) (As := [.long x0.toInt64, .long (0 : Int64), .long (3 : Int64)]) yf_X10_isIn (by decide +kernel) (ok_X10_isIn x0.toInt64 (0 : Int64) (3 : Int64) M _  hq1) tw_1218 tw_1217 rfl rfl (Nat.le_of_ble_eq_true rfl) dX10_isSheet_6 ?_
  obtain ⟨hz2, hf⟩ := g_if hf
  obtain rfl := Option.some.inj hf
  exact V_zret (Y := m_X10_isSheet) hz2 rfl dX10_isSheet_9
def f_X10_isSheet (x0 : Int32) (M : Mem) : Option (Int32 × Mem) := f_X10_isSheet_b0 x0 M
set_option maxRecDepth 20000 in
set_option maxHeartbeats 4000000 in
theorem ok_X10_isSheet {l : Launch} {g : Gam} {b : Nat} : ∀ (x0 : Int32) (M : Mem) (z : Int32 × Mem), f_X10_isSheet x0 M = some z → Cn l g (wM b) m_X10_isSheet [.int x0] M (some (.int z.1)) z.2 := fun x0 M z  hf => Cn_of (by decide +kernel) (Nat.le_of_ble_eq_true rfl) (V_sub [0] rfl (ok_X10_isSheet_b0 x0 M z  hf))

abbrev m_X10_isNumber : Mth := (yX10_isNumber, cX10_isNumber, 3, some .boolean, 1)
theorem yf_X10_isNumber : YF m_X10_isNumber 2 := ⟨tw_1543, tw_75, by decide +kernel, by decide +kernel⟩
def f_X10_isNumber_b25   (M : Mem) : Option (Int32 × Mem) :=
  some ((1 : Int32), M)
set_option maxRecDepth 20000 in
set_option maxHeartbeats 4000000 in
theorem ok_X10_isNumber_b25 {l : Launch} {g : Gam} {b : Nat}    (M : Mem) (z : Int32 × Mem)  (hf : f_X10_isNumber_b25  M = some z) : V l g (wM b) m_X10_isNumber 25 [] [] M (some (.int z.1)) z.2 := by
  unfold f_X10_isNumber_b25 at hf
  refine V_iconst (Y := m_X10_isNumber) (pc := 25) (x := (1 : Int32)) dX10_isNumber_25 (by decide +kernel) ?_
  refine V_goto (Y := m_X10_isNumber) (pc := 26) (tgt := 30) dX10_isNumber_26 (by decide +kernel) ?_
  obtain rfl := Option.some.inj hf
  exact V_zret (Y := m_X10_isNumber) z01_1 rfl dX10_isNumber_30
def f_X10_isNumber_b0  (x1 : Int32) (x2 : Int32) (M : Mem) : Option (Int32 × Mem) :=
  if ixb x1 4 = true then
  if (M 4 (ix x1)) = 0 then
    f_X10_isNumber_b25   M
  else
    if ixb (((24 : Int32) * x1) + x2) 96 = true then
    if (M 6 (ix (((24 : Int32) * x1) + x2))) = (-1000000005 : Int32) then
      some ((0 : Int32), M)
    else
      f_X10_isNumber_b25   M
    else none
  else none
set_option maxRecDepth 20000 in
set_option maxHeartbeats 4000000 in
theorem ok_X10_isNumber_b0 {l : Launch} {g : Gam} {b : Nat}   (x1 : Int32) (x2 : Int32) (M : Mem) (z : Int32 × Mem)  (hf : f_X10_isNumber_b0 x1 x2 M = some z) : V l g (wM b) m_X10_isNumber 0 [(0, .ref (b + 0)), (1, .int x1), (2, .int x2)] [] M (some (.int z.1)) z.2 := by
  unfold f_X10_isNumber_b0 at hf
  refine V_aload_n (Y := m_X10_isNumber) (pc := 0) 0 dX10_isNumber_0 rfl ?_
  refine V_grL (Y := m_X10_isNumber) (pc := 1) (x := 4) 4 kX10 sM_0 (by decide +kernel) rfl rfl tw_1074 dX10_isNumber_1 ?_
  refine V_iload_n (Y := m_X10_isNumber) (pc := 4) 1 dX10_isNumber_4 rfl ?_
  obtain ⟨hi1, hf⟩ := g_if hf
  refine V_iald (Y := m_X10_isNumber) (pc := 5) sM_4 hi1 dX10_isNumber_5 ?_
  refine V_if_eq (Y := m_X10_isNumber) (pc := 6) (tgt := 25) dX10_isNumber_6 (by decide +kernel) hf (fun hf => ?_) (fun hf => ?_)
  · exact V_sub [] rfl (ok_X10_isNumber_b25   M z  hf)
  · refine V_aload_n (Y := m_X10_isNumber) (pc := 9) 0 dX10_isNumber_9 rfl ?_
    refine V_grL (Y := m_X10_isNumber) (pc := 10) (x := 6) 6 kX10 sM_0 (by decide +kernel) rfl rfl tw_1076 dX10_isNumber_10 ?_
    refine V_bipush (Y := m_X10_isNumber) (pc := 13) (x := (24 : Int32)) dX10_isNumber_13 (by decide +kernel) ?_
    refine V_iload_n (Y := m_X10_isNumber) (pc := 15) 1 dX10_isNumber_15 rfl ?_
    refine V_imul (Y := m_X10_isNumber) (pc := 16) dX10_isNumber_16 ?_
    refine V_iload_n (Y := m_X10_isNumber) (pc := 17) 2 dX10_isNumber_17 rfl ?_
    refine V_iadd (Y := m_X10_isNumber) (pc := 18) dX10_isNumber_18 ?_
    obtain ⟨hi2, hf⟩ := g_if hf
    refine V_iald (Y := m_X10_isNumber) (pc := 19) sM_6 hi2 dX10_isNumber_19 ?_
    refine V_ldc (Y := m_X10_isNumber) (pc := 20) (x := (-1000000005 : Int32)) dX10_isNumber_20 tw_1249 ?_
    refine V_icmp_eq (Y := m_X10_isNumber) (pc := 22) (tgt := 29) dX10_isNumber_22 (by decide +kernel) hf (fun hf => ?_) (fun hf => ?_)
    · refine V_iconst (Y := m_X10_isNumber) (pc := 29) (x := (0 : Int32)) dX10_isNumber_29 (by decide +kernel) ?_
      obtain rfl := Option.some.inj hf
      exact V_zret (Y := m_X10_isNumber) z01_0 rfl dX10_isNumber_30
    · exact V_sub [] rfl (ok_X10_isNumber_b25   M z  hf)
def f_X10_isNumber (x1 : Int32) (x2 : Int32) (M : Mem) : Option (Int32 × Mem) := f_X10_isNumber_b0 x1 x2 M
set_option maxRecDepth 20000 in
set_option maxHeartbeats 4000000 in
theorem ok_X10_isNumber {l : Launch} {g : Gam} {b : Nat} : ∀ (x1 : Int32) (x2 : Int32) (M : Mem) (z : Int32 × Mem), f_X10_isNumber x1 x2 M = some z → Cn l g (wM b) m_X10_isNumber [.ref (b + 0), .int x1, .int x2] M (some (.int z.1)) z.2 := fun x1 x2 M z  hf => Cn_of (by decide +kernel) (Nat.le_of_ble_eq_true rfl) (V_sub [0, 1, 2] rfl (ok_X10_isNumber_b0 x1 x2 M z  hf))

abbrev m_X10_smooth : Mth := (yX10_smooth, cX10_smooth, 6, some .int, 3)
theorem yf_X10_smooth : YF m_X10_smooth 1 := ⟨tw_1535, tw_75, by decide +kernel, by decide +kernel⟩
def f_X10_smooth_b198  : Nat → Int32 → Int32 → Int32 → Mem → Option (Int32 × Mem)
  | 0, _, _, _, _ => none
  | n + 1, x1, x2, x3, M =>
    if ixb x1 4 = true then
    if (M 5 (ix x1)) ≤ x3 then
      some (x2, M)
    else
      if ixb x3 24 = true then
      if ixb (((24 : Int32) * x1) + x3) 96 = true then
      f_X10_smooth_b198  n x1 x2 (x3 + (1 : Int32)) (mset M 6 (ix (((24 : Int32) * x1) + x3)) (M 20 (ix x3)))
      else none
      else none
    else none
set_option maxRecDepth 20000 in
set_option maxHeartbeats 4000000 in
theorem ok_X10_smooth_b198 {l : Launch} {g : Gam} {b : Nat}   : ∀ (n : Nat) (x1 : Int32) (x2 : Int32) (x3 : Int32) (M : Mem) (z : Int32 × Mem), f_X10_smooth_b198  n x1 x2 x3 M = some z → V l g (wM b) m_X10_smooth 198 [(0, .ref (b + 0)), (1, .int x1), (2, .int x2), (3, .int x3)] [] M (some (.int z.1)) z.2 := by
  intro n
  induction n with
  | zero =>
    intro x1 x2 x3 M z  hf
    cases hf
  | succ n ih =>
    intro x1 x2 x3 M z  hf
    rw [f_X10_smooth_b198] at hf
    refine V_iload_n (Y := m_X10_smooth) (pc := 198) 3 dX10_smooth_198 rfl ?_
    refine V_aload_n (Y := m_X10_smooth) (pc := 199) 0 dX10_smooth_199 rfl ?_
    refine V_grL (Y := m_X10_smooth) (pc := 200) (x := 5) 5 kX10 sM_0 (by decide +kernel) rfl rfl tw_1075 dX10_smooth_200 ?_
    refine V_iload_n (Y := m_X10_smooth) (pc := 203) 1 dX10_smooth_203 rfl ?_
    obtain ⟨hi1, hf⟩ := g_if hf
    refine V_iald (Y := m_X10_smooth) (pc := 204) sM_5 hi1 dX10_smooth_204 ?_
    refine V_icmp_ge (Y := m_X10_smooth) (pc := 205) (tgt := 231) dX10_smooth_205 (by decide +kernel) hf (fun hf => ?_) (fun hf => ?_)
    · refine V_iload_n (Y := m_X10_smooth) (pc := 231) 2 dX10_smooth_231 rfl ?_
      obtain rfl := Option.some.inj hf
      exact V_iret (Y := m_X10_smooth) rfl dX10_smooth_232
    · refine V_aload_n (Y := m_X10_smooth) (pc := 208) 0 dX10_smooth_208 rfl ?_
      refine V_grL (Y := m_X10_smooth) (pc := 209) (x := 6) 6 kX10 sM_0 (by decide +kernel) rfl rfl tw_1076 dX10_smooth_209 ?_
      refine V_bipush (Y := m_X10_smooth) (pc := 212) (x := (24 : Int32)) dX10_smooth_212 (by decide +kernel) ?_
      refine V_iload_n (Y := m_X10_smooth) (pc := 214) 1 dX10_smooth_214 rfl ?_
      refine V_imul (Y := m_X10_smooth) (pc := 215) dX10_smooth_215 ?_
      refine V_iload_n (Y := m_X10_smooth) (pc := 216) 3 dX10_smooth_216 rfl ?_
      refine V_iadd (Y := m_X10_smooth) (pc := 217) dX10_smooth_217 ?_
      refine V_aload_n (Y := m_X10_smooth) (pc := 218) 0 dX10_smooth_218 rfl ?_
      refine V_grL (Y := m_X10_smooth) (pc := 219) (x := 20) 40 kX10 sM_0 (by decide +kernel) rfl rfl tw_1110 dX10_smooth_219 ?_
      refine V_iload_n (Y := m_X10_smooth) (pc := 222) 3 dX10_smooth_222 rfl ?_
      obtain ⟨hi2, hf⟩ := g_if hf
      refine V_iald (Y := m_X10_smooth) (pc := 223) sM_20 hi2 dX10_smooth_223 ?_
      obtain ⟨hi3, hf⟩ := g_if hf
      refine V_iast (Y := m_X10_smooth) (pc := 224) sM_6 hi3 dX10_smooth_224 ?_
      refine V_iinc (Y := m_X10_smooth) (pc := 225) (y := (x3 + (1 : Int32))) 3 [(3, .int (x3 + (1 : Int32))), (0, .ref (b + 0)), (1, .int x1), (2, .int x2)] dX10_smooth_225 rfl rfl (by decide +kernel) rfl ?_
      refine V_goto (Y := m_X10_smooth) (pc := 228) (tgt := 198) dX10_smooth_228 (by decide +kernel) ?_
      exact V_sub [1, 2, 3, 0] rfl (ih x1 x2 (x3 + (1 : Int32)) (mset M 6 (ix (((24 : Int32) * x1) + x3)) (M 20 (ix x3))) z  hf)
def f_X10_smooth_b196  (x1 : Int32) (x2 : Int32) (M : Mem) : Option (Int32 × Mem) :=
  f_X10_smooth_b198  FU x1 x2 (0 : Int32) M
set_option maxRecDepth 20000 in
set_option maxHeartbeats 4000000 in
theorem ok_X10_smooth_b196 {l : Launch} {g : Gam} {b : Nat}   (x1 : Int32) (x2 : Int32) (M : Mem) (z : Int32 × Mem)  (hf : f_X10_smooth_b196 x1 x2 M = some z) : V l g (wM b) m_X10_smooth 196 [(0, .ref (b + 0)), (1, .int x1), (2, .int x2)] [] M (some (.int z.1)) z.2 := by
  unfold f_X10_smooth_b196 at hf
  refine V_iconst (Y := m_X10_smooth) (pc := 196) (x := (0 : Int32)) dX10_smooth_196 (by decide +kernel) ?_
  refine V_istore_n (Y := m_X10_smooth) (pc := 197) [(3, .int (0 : Int32)), (0, .ref (b + 0)), (1, .int x1), (2, .int x2)] dX10_smooth_197 (by decide +kernel) rfl ?_
  exact V_sub [1, 2, 3, 0] rfl (ok_X10_smooth_b198  FU x1 x2 (0 : Int32) M z  hf)
def f_X10_smooth_b190 (k62 : Int32 → Int32 → Int32 → Mem → Option (Int32 × Mem)) (x1 : Int32) (x2 : Int32) (x3 : Int32) (M : Mem) : Option (Int32 × Mem) :=
  k62 x1 x2 (x3 + (1 : Int32)) M
set_option maxRecDepth 20000 in
set_option maxHeartbeats 4000000 in
theorem ok_X10_smooth_b190 {l : Launch} {g : Gam} {b : Nat} (k62 : Int32 → Int32 → Int32 → Mem → Option (Int32 × Mem)) (hk62 : ∀ (x1 : Int32) (x2 : Int32) (x3 : Int32) (M : Mem) (z : Int32 × Mem), k62 x1 x2 x3 M = some z → V l g (wM b) m_X10_smooth 62 [(0, .ref (b + 0)), (1, .int x1), (2, .int x2), (3, .int x3)] [] M (some (.int z.1)) z.2) (x1 : Int32) (x2 : Int32) (x3 : Int32) (M : Mem) (z : Int32 × Mem)  (hf : f_X10_smooth_b190 k62 x1 x2 x3 M = some z) : V l g (wM b) m_X10_smooth 190 [(0, .ref (b + 0)), (1, .int x1), (2, .int x2), (3, .int x3)] [] M (some (.int z.1)) z.2 := by
  unfold f_X10_smooth_b190 at hf
  refine V_iinc (Y := m_X10_smooth) (pc := 190) (y := (x3 + (1 : Int32))) 3 [(3, .int (x3 + (1 : Int32))), (0, .ref (b + 0)), (1, .int x1), (2, .int x2)] dX10_smooth_190 rfl rfl (by decide +kernel) rfl ?_
  refine V_goto (Y := m_X10_smooth) (pc := 193) (tgt := 62) dX10_smooth_193 (by decide +kernel) ?_
  exact V_sub [1, 2, 3, 0] rfl (hk62 x1 x2 (x3 + (1 : Int32)) M z  hf)
def f_X10_smooth_b188 (k62 : Int32 → Int32 → Int32 → Mem → Option (Int32 × Mem)) (x1 : Int32) (x3 : Int32) (s0 : Int32) (s1 : Int32) (M : Mem) : Option (Int32 × Mem) :=
  f_X10_smooth_b190 k62 x1 (s1 + s0) x3 M
set_option maxRecDepth 20000 in
set_option maxHeartbeats 4000000 in
theorem ok_X10_smooth_b188 {l : Launch} {g : Gam} {b : Nat} (k62 : Int32 → Int32 → Int32 → Mem → Option (Int32 × Mem)) (hk62 : ∀ (x1 : Int32) (x2 : Int32) (x3 : Int32) (M : Mem) (z : Int32 × Mem), k62 x1 x2 x3 M = some z → V l g (wM b) m_X10_smooth 62 [(0, .ref (b + 0)), (1, .int x1), (2, .int x2), (3, .int x3)] [] M (some (.int z.1)) z.2) (x1 : Int32) (x3 : Int32) (s0 : Int32) (s1 : Int32) (M : Mem) (z : Int32 × Mem)  (hf : f_X10_smooth_b188 k62 x1 x3 s0 s1 M = some z) : V l g (wM b) m_X10_smooth 188 [(0, .ref (b + 0)), (1, .int x1), (3, .int x3)] [.int s0, .int s1] M (some (.int z.1)) z.2 := by
  unfold f_X10_smooth_b188 at hf
  refine V_iadd (Y := m_X10_smooth) (pc := 188) dX10_smooth_188 ?_
  refine V_istore_n (Y := m_X10_smooth) (pc := 189) [(2, .int (s1 + s0)), (0, .ref (b + 0)), (1, .int x1), (3, .int x3)] dX10_smooth_189 (by decide +kernel) rfl ?_
  exact V_sub [1, 2, 0, 3] rfl (ok_X10_smooth_b190 k62 hk62 x1 (s1 + s0) x3 M z  hf)
def f_X10_smooth_bc147_1 (k62 : Int32 → Int32 → Int32 → Mem → Option (Int32 × Mem)) (x1 : Int32) (x2 : Int32) (x3 : Int32) (v0 : Int64) (M : Mem) : Option (Int32 × Mem) :=
  if ixb x3 24 = true then
  if ixb x3 24 = true then
  if ixb (((24 : Int32) * x1) + x3) 96 = true then
  if ((mset M 20 (ix x3) (v0 / (3 : Int64)).toInt32) 20 (ix x3)) = ((mset M 20 (ix x3) (v0 / (3 : Int64)).toInt32) 6 (ix (((24 : Int32) * x1) + x3))) then
    f_X10_smooth_b188 k62 x1 x3 (0 : Int32) x2 (mset M 20 (ix x3) (v0 / (3 : Int64)).toInt32)
  else
    f_X10_smooth_b188 k62 x1 x3 (1 : Int32) x2 (mset M 20 (ix x3) (v0 / (3 : Int64)).toInt32)
  else none
  else none
  else none
set_option maxRecDepth 20000 in
set_option maxHeartbeats 4000000 in
theorem ok_X10_smooth_bc147_1 {l : Launch} {g : Gam} {b : Nat} (k62 : Int32 → Int32 → Int32 → Mem → Option (Int32 × Mem)) (hk62 : ∀ (x1 : Int32) (x2 : Int32) (x3 : Int32) (M : Mem) (z : Int32 × Mem), k62 x1 x2 x3 M = some z → V l g (wM b) m_X10_smooth 62 [(0, .ref (b + 0)), (1, .int x1), (2, .int x2), (3, .int x3)] [] M (some (.int z.1)) z.2) (x1 : Int32) (x2 : Int32) (x3 : Int32) (v0 : Int64) (M : Mem) (z : Int32 × Mem)  (hf : f_X10_smooth_bc147_1 k62 x1 x2 x3 v0 M = some z) : V l g (wM b) m_X10_smooth 147 [(0, .ref (b + 0)), (1, .int x1), (2, .int x2), (3, .int x3)] [.long v0] M (some (.int z.1)) z.2 := by
  unfold f_X10_smooth_bc147_1 at hf
  refine V_lstore (Y := m_X10_smooth) (pc := 147) [(4, .long v0), (0, .ref (b + 0)), (1, .int x1), (2, .int x2), (3, .int x3)] dX10_smooth_147 (by decide +kernel) rfl ?_
  refine V_aload_n (Y := m_X10_smooth) (pc := 149) 1 dX10_smooth_149 rfl ?_
  refine V_grL (Y := m_X10_smooth) (pc := 150) (x := 20) 40 kX10 sM_0 (by decide +kernel) rfl rfl tw_1110 dX10_smooth_150 ?_
  refine V_iload_n (Y := m_X10_smooth) (pc := 153) 4 dX10_smooth_153 rfl ?_
  refine V_lload (Y := m_X10_smooth) (pc := 154) 0 dX10_smooth_154 rfl ?_
  refine V_ldc2 (Y := m_X10_smooth) (pc := 156) (x := (3 : Int64)) dX10_smooth_156 tw_1493 ?_
  refine V_ldiv (Y := m_X10_smooth) (pc := 159) dX10_smooth_159 (by decide +kernel) ?_
  refine V_l2i (Y := m_X10_smooth) (pc := 160) dX10_smooth_160 ?_
  obtain ⟨hi1, hf⟩ := g_if hf
  refine V_iast (Y := m_X10_smooth) (pc := 161) sM_20 hi1 dX10_smooth_161 ?_
  refine V_iload_n (Y := m_X10_smooth) (pc := 162) 3 dX10_smooth_162 rfl ?_
  refine V_aload_n (Y := m_X10_smooth) (pc := 163) 1 dX10_smooth_163 rfl ?_
  refine V_grL (Y := m_X10_smooth) (pc := 164) (x := 20) 40 kX10 sM_0 (by decide +kernel) rfl rfl tw_1110 dX10_smooth_164 ?_
  refine V_iload_n (Y := m_X10_smooth) (pc := 167) 4 dX10_smooth_167 rfl ?_
  obtain ⟨hi2, hf⟩ := g_if hf
  refine V_iald (Y := m_X10_smooth) (pc := 168) sM_20 hi2 dX10_smooth_168 ?_
  refine V_aload_n (Y := m_X10_smooth) (pc := 169) 1 dX10_smooth_169 rfl ?_
  refine V_grL (Y := m_X10_smooth) (pc := 170) (x := 6) 6 kX10 sM_0 (by decide +kernel) rfl rfl tw_1076 dX10_smooth_170 ?_
  refine V_bipush (Y := m_X10_smooth) (pc := 173) (x := (24 : Int32)) dX10_smooth_173 (by decide +kernel) ?_
  refine V_iload_n (Y := m_X10_smooth) (pc := 175) 2 dX10_smooth_175 rfl ?_
  refine V_imul (Y := m_X10_smooth) (pc := 176) dX10_smooth_176 ?_
  refine V_iload_n (Y := m_X10_smooth) (pc := 177) 4 dX10_smooth_177 rfl ?_
  refine V_iadd (Y := m_X10_smooth) (pc := 178) dX10_smooth_178 ?_
  obtain ⟨hi3, hf⟩ := g_if hf
  refine V_iald (Y := m_X10_smooth) (pc := 179) sM_6 hi3 dX10_smooth_179 ?_
  refine V_icmp_ne (Y := m_X10_smooth) (pc := 180) (tgt := 187) dX10_smooth_180 (by decide +kernel) hf (fun hf => ?_) (fun hf => ?_)
  · refine V_iconst (Y := m_X10_smooth) (pc := 187) (x := (1 : Int32)) dX10_smooth_187 (by decide +kernel) ?_
    exact V_sub [1, 2, 4] rfl (ok_X10_smooth_b188 k62 hk62 x1 x3 (1 : Int32) x2 (mset M 20 (ix x3) (v0 / (3 : Int64)).toInt32) z  hf)
  · refine V_iconst (Y := m_X10_smooth) (pc := 183) (x := (0 : Int32)) dX10_smooth_183 (by decide +kernel) ?_
    refine V_goto (Y := m_X10_smooth) (pc := 184) (tgt := 188) dX10_smooth_184 (by decide +kernel) ?_
    exact V_sub [1, 2, 4] rfl (ok_X10_smooth_b188 k62 hk62 x1 x3 (0 : Int32) x2 (mset M 20 (ix x3) (v0 / (3 : Int64)).toInt32) z  hf)
def f_X10_smooth_b62  : Nat → Int32 → Int32 → Int32 → Mem → Option (Int32 × Mem)
  | 0, _, _, _, _ => none
  | n + 1, x1, x2, x3, M =>
    if ixb x1 4 = true then
    if (M 5 (ix x1)) ≤ (x3 + (1 : Int32)) then
      f_X10_smooth_b196  x1 x2 M
    else
      (f_X10_isNumber x1 (x3 - (1 : Int32)) M).bind fun q2 =>
      if q2.1 = 0 then
        f_X10_smooth_b190 (f_X10_smooth_b62  n) x1 x2 x3 q2.2
      else
        (f_X10_isNumber x1 x3 q2.2).bind fun q3 =>
        if q3.1 = 0 then
          f_X10_smooth_b190 (f_X10_smooth_b62  n) x1 x2 x3 q3.2
        else
          (f_X10_isNumber x1 (x3 + (1 : Int32)) q3.2).bind fun q4 =>
          if q4.1 = 0 then
            f_X10_smooth_b190 (f_X10_smooth_b62  n) x1 x2 x3 q4.2
          else
            if ixb ((((24 : Int32) * x1) + x3) - (1 : Int32)) 96 = true then
            if ixb (((24 : Int32) * x1) + x3) 96 = true then
            if ixb ((((24 : Int32) * x1) + x3) + (1 : Int32)) 96 = true then
            f_X10_smooth_bc147_1 (f_X10_smooth_b62  n) x1 x2 x3 (((q4.2 6 (ix ((((24 : Int32) * x1) + x3) - (1 : Int32)))).toInt64 + (q4.2 6 (ix (((24 : Int32) * x1) + x3))).toInt64) + (q4.2 6 (ix ((((24 : Int32) * x1) + x3) + (1 : Int32)))).toInt64) q4.2
            else none
            else none
            else none
    else none
set_option maxRecDepth 20000 in
set_option maxHeartbeats 4000000 in
theorem ok_X10_smooth_b62 {l : Launch} {g : Gam} {b : Nat}   : ∀ (n : Nat) (x1 : Int32) (x2 : Int32) (x3 : Int32) (M : Mem) (z : Int32 × Mem), f_X10_smooth_b62  n x1 x2 x3 M = some z → V l g (wM b) m_X10_smooth 62 [(0, .ref (b + 0)), (1, .int x1), (2, .int x2), (3, .int x3)] [] M (some (.int z.1)) z.2 := by
  intro n
  induction n with
  | zero =>
    intro x1 x2 x3 M z  hf
    cases hf
  | succ n ih =>
    intro x1 x2 x3 M z  hf
    rw [f_X10_smooth_b62] at hf
    refine V_iload_n (Y := m_X10_smooth) (pc := 62) 3 dX10_smooth_62 rfl ?_
    refine V_iconst (Y := m_X10_smooth) (pc := 63) (x := (1 : Int32)) dX10_smooth_63 (by decide +kernel) ?_
    refine V_iadd (Y := m_X10_smooth) (pc := 64) dX10_smooth_64 ?_
    refine V_aload_n (Y := m_X10_smooth) (pc := 65) 0 dX10_smooth_65 rfl ?_
    refine V_grL (Y := m_X10_smooth) (pc := 66) (x := 5) 5 kX10 sM_0 (by decide +kernel) rfl rfl tw_1075 dX10_smooth_66 ?_
    refine V_iload_n (Y := m_X10_smooth) (pc := 69) 1 dX10_smooth_69 rfl ?_
    obtain ⟨hi1, hf⟩ := g_if hf
    refine V_iald (Y := m_X10_smooth) (pc := 70) sM_5 hi1 dX10_smooth_70 ?_
    refine V_icmp_ge (Y := m_X10_smooth) (pc := 71) (tgt := 196) dX10_smooth_71 (by decide +kernel) hf (fun hf => ?_) (fun hf => ?_)
    · exact V_sub [0, 1, 2] rfl (ok_X10_smooth_b196  x1 x2 M z  hf)
    · refine V_aload_n (Y := m_X10_smooth) (pc := 74) 0 dX10_smooth_74 rfl ?_
      refine V_iload_n (Y := m_X10_smooth) (pc := 75) 1 dX10_smooth_75 rfl ?_
      refine V_iload_n (Y := m_X10_smooth) (pc := 76) 3 dX10_smooth_76 rfl ?_
      refine V_iconst (Y := m_X10_smooth) (pc := 77) (x := (1 : Int32)) dX10_smooth_77 (by decide +kernel) ?_
      refine V_isub (Y := m_X10_smooth) (pc := 78) dX10_smooth_78 ?_
      obtain ⟨q2, hq2, hf⟩ := g_bind hf
      refine V_cVi (Y := m_X10_smooth) (pc := 79) (As := [.int x1, .int (x3 - (1 : Int32))]) yf_X10_isNumber kX10 sM_0 (by decide +kernel) (ok_X10_isNumber x1 (x3 - (1 : Int32)) M _  hq2) tw_1542 tw_58 tw_1540 rfl rfl (Nat.le_of_ble_eq_true rfl) dX10_smooth_79 ?_
      refine V_if_eq (Y := m_X10_smooth) (pc := 82) (tgt := 190) dX10_smooth_82 (by decide +kernel) hf (fun hf => ?_) (fun hf => ?_)
      · exact V_sub [0, 1, 2, 3] rfl (ok_X10_smooth_b190 (f_X10_smooth_b62  n) ih x1 x2 x3 q2.2 z  hf)
      · refine V_aload_n (Y := m_X10_smooth) (pc := 85) 0 dX10_smooth_85 rfl ?_
        refine V_iload_n (Y := m_X10_smooth) (pc := 86) 1 dX10_smooth_86 rfl ?_
        refine V_iload_n (Y := m_X10_smooth) (pc := 87) 3 dX10_smooth_87 rfl ?_
        obtain ⟨q3, hq3, hf⟩ := g_bind hf
        refine V_cVi (Y := m_X10_smooth) (pc := 88) (As := [.int x1, .int x3]) yf_X10_isNumber kX10 sM_0 (by decide +kernel) (ok_X10_isNumber x1 x3 q2.2 _  hq3) tw_1542 tw_58 tw_1540 rfl rfl (Nat.le_of_ble_eq_true rfl) dX10_smooth_88 ?_
        refine V_if_eq (Y := m_X10_smooth) (pc := 91) (tgt := 190) dX10_smooth_91 (by decide +kernel) hf (fun hf => ?_) (fun hf => ?_)
        · exact V_sub [0, 1, 2, 3] rfl (ok_X10_smooth_b190 (f_X10_smooth_b62  n) ih x1 x2 x3 q3.2 z  hf)
        · refine V_aload_n (Y := m_X10_smooth) (pc := 94) 0 dX10_smooth_94 rfl ?_
          refine V_iload_n (Y := m_X10_smooth) (pc := 95) 1 dX10_smooth_95 rfl ?_
          refine V_iload_n (Y := m_X10_smooth) (pc := 96) 3 dX10_smooth_96 rfl ?_
          refine V_iconst (Y := m_X10_smooth) (pc := 97) (x := (1 : Int32)) dX10_smooth_97 (by decide +kernel) ?_
          refine V_iadd (Y := m_X10_smooth) (pc := 98) dX10_smooth_98 ?_
          obtain ⟨q4, hq4, hf⟩ := g_bind hf
          refine V_cVi (Y := m_X10_smooth) (pc := 99) (As := [.int x1, .int (x3 + (1 : Int32))]) yf_X10_isNumber kX10 sM_0 (by decide +kernel) (ok_X10_isNumber x1 (x3 + (1 : Int32)) q3.2 _  hq4) tw_1542 tw_58 tw_1540 rfl rfl (Nat.le_of_ble_eq_true rfl) dX10_smooth_99 ?_
          refine V_if_eq (Y := m_X10_smooth) (pc := 102) (tgt := 190) dX10_smooth_102 (by decide +kernel) hf (fun hf => ?_) (fun hf => ?_)
          · exact V_sub [0, 1, 2, 3] rfl (ok_X10_smooth_b190 (f_X10_smooth_b62  n) ih x1 x2 x3 q4.2 z  hf)
          · refine V_aload_n (Y := m_X10_smooth) (pc := 105) 0 dX10_smooth_105 rfl ?_
            refine V_grL (Y := m_X10_smooth) (pc := 106) (x := 6) 6 kX10 sM_0 (by decide +kernel) rfl rfl tw_1076 dX10_smooth_106 ?_
            refine V_bipush (Y := m_X10_smooth) (pc := 109) (x := (24 : Int32)) dX10_smooth_109 (by decide +kernel) ?_
            refine V_iload_n (Y := m_X10_smooth) (pc := 111) 1 dX10_smooth_111 rfl ?_
            refine V_imul (Y := m_X10_smooth) (pc := 112) dX10_smooth_112 ?_
            refine V_iload_n (Y := m_X10_smooth) (pc := 113) 3 dX10_smooth_113 rfl ?_
            refine V_iadd (Y := m_X10_smooth) (pc := 114) dX10_smooth_114 ?_
            refine V_iconst (Y := m_X10_smooth) (pc := 115) (x := (1 : Int32)) dX10_smooth_115 (by decide +kernel) ?_
            refine V_isub (Y := m_X10_smooth) (pc := 116) dX10_smooth_116 ?_
            obtain ⟨hi5, hf⟩ := g_if hf
            refine V_iald (Y := m_X10_smooth) (pc := 117) sM_6 hi5 dX10_smooth_117 ?_
            refine V_i2l (Y := m_X10_smooth) (pc := 118) dX10_smooth_118 ?_
            refine V_aload_n (Y := m_X10_smooth) (pc := 119) 0 dX10_smooth_119 rfl ?_
            refine V_grL (Y := m_X10_smooth) (pc := 120) (x := 6) 6 kX10 sM_0 (by decide +kernel) rfl rfl tw_1076 dX10_smooth_120 ?_
            refine V_bipush (Y := m_X10_smooth) (pc := 123) (x := (24 : Int32)) dX10_smooth_123 (by decide +kernel) ?_
            refine V_iload_n (Y := m_X10_smooth) (pc := 125) 1 dX10_smooth_125 rfl ?_
            refine V_imul (Y := m_X10_smooth) (pc := 126) dX10_smooth_126 ?_
            refine V_iload_n (Y := m_X10_smooth) (pc := 127) 3 dX10_smooth_127 rfl ?_
            refine V_iadd (Y := m_X10_smooth) (pc := 128) dX10_smooth_128 ?_
            obtain ⟨hi6, hf⟩ := g_if hf
            refine V_iald (Y := m_X10_smooth) (pc := 129) sM_6 hi6 dX10_smooth_129 ?_
            refine V_i2l (Y := m_X10_smooth) (pc := 130) dX10_smooth_130 ?_
            refine V_ladd (Y := m_X10_smooth) (pc := 131) dX10_smooth_131 ?_
            refine V_aload_n (Y := m_X10_smooth) (pc := 132) 0 dX10_smooth_132 rfl ?_
            refine V_grL (Y := m_X10_smooth) (pc := 133) (x := 6) 6 kX10 sM_0 (by decide +kernel) rfl rfl tw_1076 dX10_smooth_133 ?_
            refine V_bipush (Y := m_X10_smooth) (pc := 136) (x := (24 : Int32)) dX10_smooth_136 (by decide +kernel) ?_
            refine V_iload_n (Y := m_X10_smooth) (pc := 138) 1 dX10_smooth_138 rfl ?_
            refine V_imul (Y := m_X10_smooth) (pc := 139) dX10_smooth_139 ?_
            refine V_iload_n (Y := m_X10_smooth) (pc := 140) 3 dX10_smooth_140 rfl ?_
            refine V_iadd (Y := m_X10_smooth) (pc := 141) dX10_smooth_141 ?_
            refine V_iconst (Y := m_X10_smooth) (pc := 142) (x := (1 : Int32)) dX10_smooth_142 (by decide +kernel) ?_
            refine V_iadd (Y := m_X10_smooth) (pc := 143) dX10_smooth_143 ?_
            obtain ⟨hi7, hf⟩ := g_if hf
            refine V_iald (Y := m_X10_smooth) (pc := 144) sM_6 hi7 dX10_smooth_144 ?_
            refine V_i2l (Y := m_X10_smooth) (pc := 145) dX10_smooth_145 ?_
            refine V_ladd (Y := m_X10_smooth) (pc := 146) dX10_smooth_146 ?_
            exact V_sub [0, 1, 2, 3] rfl (ok_X10_smooth_bc147_1 (f_X10_smooth_b62  n) ih x1 x2 x3 (((q4.2 6 (ix ((((24 : Int32) * x1) + x3) - (1 : Int32)))).toInt64 + (q4.2 6 (ix (((24 : Int32) * x1) + x3))).toInt64) + (q4.2 6 (ix ((((24 : Int32) * x1) + x3) + (1 : Int32)))).toInt64) q4.2 z  hf)
def f_X10_smooth_b60  (x1 : Int32) (x2 : Int32) (M : Mem) : Option (Int32 × Mem) :=
  f_X10_smooth_b62  FU x1 x2 (1 : Int32) M
set_option maxRecDepth 20000 in
set_option maxHeartbeats 4000000 in
theorem ok_X10_smooth_b60 {l : Launch} {g : Gam} {b : Nat}   (x1 : Int32) (x2 : Int32) (M : Mem) (z : Int32 × Mem)  (hf : f_X10_smooth_b60 x1 x2 M = some z) : V l g (wM b) m_X10_smooth 60 [(0, .ref (b + 0)), (1, .int x1), (2, .int x2)] [] M (some (.int z.1)) z.2 := by
  unfold f_X10_smooth_b60 at hf
  refine V_iconst (Y := m_X10_smooth) (pc := 60) (x := (1 : Int32)) dX10_smooth_60 (by decide +kernel) ?_
  refine V_istore_n (Y := m_X10_smooth) (pc := 61) [(3, .int (1 : Int32)), (0, .ref (b + 0)), (1, .int x1), (2, .int x2)] dX10_smooth_61 (by decide +kernel) rfl ?_
  exact V_sub [1, 2, 3, 0] rfl (ok_X10_smooth_b62  FU x1 x2 (1 : Int32) M z  hf)
def f_X10_smooth_b27  : Nat → Int32 → Int32 → Int32 → Mem → Option (Int32 × Mem)
  | 0, _, _, _, _ => none
  | n + 1, x1, x2, x3, M =>
    if ixb x1 4 = true then
    if (M 5 (ix x1)) ≤ x3 then
      f_X10_smooth_b60  x1 x2 M
    else
      if ixb (((24 : Int32) * x1) + x3) 96 = true then
      if ixb x3 24 = true then
      f_X10_smooth_b27  n x1 x2 (x3 + (1 : Int32)) (mset M 20 (ix x3) (M 6 (ix (((24 : Int32) * x1) + x3))))
      else none
      else none
    else none
set_option maxRecDepth 20000 in
set_option maxHeartbeats 4000000 in
theorem ok_X10_smooth_b27 {l : Launch} {g : Gam} {b : Nat}   : ∀ (n : Nat) (x1 : Int32) (x2 : Int32) (x3 : Int32) (M : Mem) (z : Int32 × Mem), f_X10_smooth_b27  n x1 x2 x3 M = some z → V l g (wM b) m_X10_smooth 27 [(0, .ref (b + 0)), (1, .int x1), (2, .int x2), (3, .int x3)] [] M (some (.int z.1)) z.2 := by
  intro n
  induction n with
  | zero =>
    intro x1 x2 x3 M z  hf
    cases hf
  | succ n ih =>
    intro x1 x2 x3 M z  hf
    rw [f_X10_smooth_b27] at hf
    refine V_iload_n (Y := m_X10_smooth) (pc := 27) 3 dX10_smooth_27 rfl ?_
    refine V_aload_n (Y := m_X10_smooth) (pc := 28) 0 dX10_smooth_28 rfl ?_
    refine V_grL (Y := m_X10_smooth) (pc := 29) (x := 5) 5 kX10 sM_0 (by decide +kernel) rfl rfl tw_1075 dX10_smooth_29 ?_
    refine V_iload_n (Y := m_X10_smooth) (pc := 32) 1 dX10_smooth_32 rfl ?_
    obtain ⟨hi1, hf⟩ := g_if hf
    refine V_iald (Y := m_X10_smooth) (pc := 33) sM_5 hi1 dX10_smooth_33 ?_
    refine V_icmp_ge (Y := m_X10_smooth) (pc := 34) (tgt := 60) dX10_smooth_34 (by decide +kernel) hf (fun hf => ?_) (fun hf => ?_)
    · exact V_sub [0, 1, 2] rfl (ok_X10_smooth_b60  x1 x2 M z  hf)
    · refine V_aload_n (Y := m_X10_smooth) (pc := 37) 0 dX10_smooth_37 rfl ?_
      refine V_grL (Y := m_X10_smooth) (pc := 38) (x := 20) 40 kX10 sM_0 (by decide +kernel) rfl rfl tw_1110 dX10_smooth_38 ?_
      refine V_iload_n (Y := m_X10_smooth) (pc := 41) 3 dX10_smooth_41 rfl ?_
      refine V_aload_n (Y := m_X10_smooth) (pc := 42) 0 dX10_smooth_42 rfl ?_
      refine V_grL (Y := m_X10_smooth) (pc := 43) (x := 6) 6 kX10 sM_0 (by decide +kernel) rfl rfl tw_1076 dX10_smooth_43 ?_
      refine V_bipush (Y := m_X10_smooth) (pc := 46) (x := (24 : Int32)) dX10_smooth_46 (by decide +kernel) ?_
      refine V_iload_n (Y := m_X10_smooth) (pc := 48) 1 dX10_smooth_48 rfl ?_
      refine V_imul (Y := m_X10_smooth) (pc := 49) dX10_smooth_49 ?_
      refine V_iload_n (Y := m_X10_smooth) (pc := 50) 3 dX10_smooth_50 rfl ?_
      refine V_iadd (Y := m_X10_smooth) (pc := 51) dX10_smooth_51 ?_
      obtain ⟨hi2, hf⟩ := g_if hf
      refine V_iald (Y := m_X10_smooth) (pc := 52) sM_6 hi2 dX10_smooth_52 ?_
      obtain ⟨hi3, hf⟩ := g_if hf
      refine V_iast (Y := m_X10_smooth) (pc := 53) sM_20 hi3 dX10_smooth_53 ?_
      refine V_iinc (Y := m_X10_smooth) (pc := 54) (y := (x3 + (1 : Int32))) 3 [(3, .int (x3 + (1 : Int32))), (0, .ref (b + 0)), (1, .int x1), (2, .int x2)] dX10_smooth_54 rfl rfl (by decide +kernel) rfl ?_
      refine V_goto (Y := m_X10_smooth) (pc := 57) (tgt := 27) dX10_smooth_57 (by decide +kernel) ?_
      exact V_sub [1, 2, 3, 0] rfl (ih x1 x2 (x3 + (1 : Int32)) (mset M 20 (ix x3) (M 6 (ix (((24 : Int32) * x1) + x3)))) z  hf)
def f_X10_smooth_b0  (x1 : Int32) (M : Mem) : Option (Int32 × Mem) :=
  (f_X10_isSheet x1 M).bind fun q1 =>
  if q1.1 = 0 then
    some ((-1000000001 : Int32), q1.2)
  else
    if ixb x1 4 = true then
    if 0 ≤ (q1.2 4 (ix x1)) then
      f_X10_smooth_b27  FU x1 (0 : Int32) (0 : Int32) q1.2
    else
      some ((-1000000011 : Int32), q1.2)
    else none
set_option maxRecDepth 20000 in
set_option maxHeartbeats 4000000 in
theorem ok_X10_smooth_b0 {l : Launch} {g : Gam} {b : Nat}   (x1 : Int32) (M : Mem) (z : Int32 × Mem)  (hf : f_X10_smooth_b0 x1 M = some z) : V l g (wM b) m_X10_smooth 0 [(0, .ref (b + 0)), (1, .int x1)] [] M (some (.int z.1)) z.2 := by
  unfold f_X10_smooth_b0 at hf
  refine V_iload_n (Y := m_X10_smooth) (pc := 0) 1 dX10_smooth_0 rfl ?_
  obtain ⟨q1, hq1, hf⟩ := g_bind hf
  refine V_cSi (Y := m_X10_smooth) (pc := 1) (As := [.int x1]) yf_X10_isSheet (by decide +kernel) (ok_X10_isSheet x1 M _  hq1) tw_1537 tw_1536 rfl rfl (Nat.le_of_ble_eq_true rfl) dX10_smooth_1 ?_
  refine V_if_ne (Y := m_X10_smooth) (pc := 4) (tgt := 10) dX10_smooth_4 (by decide +kernel) hf (fun hf => ?_) (fun hf => ?_)
  · refine V_aload_n (Y := m_X10_smooth) (pc := 10) 0 dX10_smooth_10 rfl ?_
    refine V_grL (Y := m_X10_smooth) (pc := 11) (x := 4) 4 kX10 sM_0 (by decide +kernel) rfl rfl tw_1074 dX10_smooth_11 ?_
    refine V_iload_n (Y := m_X10_smooth) (pc := 14) 1 dX10_smooth_14 rfl ?_
    obtain ⟨hi2, hf⟩ := g_if hf
    refine V_iald (Y := m_X10_smooth) (pc := 15) sM_4 hi2 dX10_smooth_15 ?_
    refine V_if_ge (Y := m_X10_smooth) (pc := 16) (tgt := 23) dX10_smooth_16 (by decide +kernel) hf (fun hf => ?_) (fun hf => ?_)
    · refine V_iconst (Y := m_X10_smooth) (pc := 23) (x := (0 : Int32)) dX10_smooth_23 (by decide +kernel) ?_
      refine V_istore_n (Y := m_X10_smooth) (pc := 24) [(2, .int (0 : Int32)), (0, .ref (b + 0)), (1, .int x1)] dX10_smooth_24 (by decide +kernel) rfl ?_
      refine V_iconst (Y := m_X10_smooth) (pc := 25) (x := (0 : Int32)) dX10_smooth_25 (by decide +kernel) ?_
      refine V_istore_n (Y := m_X10_smooth) (pc := 26) [(3, .int (0 : Int32)), (2, .int (0 : Int32)), (0, .ref (b + 0)), (1, .int x1)] dX10_smooth_26 (by decide +kernel) rfl ?_
      exact V_sub [2, 3, 1, 0] rfl (ok_X10_smooth_b27  FU x1 (0 : Int32) (0 : Int32) q1.2 z  hf)
    · refine V_ldcw (Y := m_X10_smooth) (pc := 19) (x := (-1000000011 : Int32)) dX10_smooth_19 tw_1539 ?_
      obtain rfl := Option.some.inj hf
      exact V_iret (Y := m_X10_smooth) rfl dX10_smooth_22
  · refine V_ldc (Y := m_X10_smooth) (pc := 7) (x := (-1000000001 : Int32)) dX10_smooth_7 tw_1224 ?_
    obtain rfl := Option.some.inj hf
    exact V_iret (Y := m_X10_smooth) rfl dX10_smooth_9
def f_X10_smooth (x1 : Int32) (M : Mem) : Option (Int32 × Mem) := f_X10_smooth_b0 x1 M
set_option maxRecDepth 20000 in
set_option maxHeartbeats 4000000 in
theorem ok_X10_smooth {l : Launch} {g : Gam} {b : Nat} : ∀ (x1 : Int32) (M : Mem) (z : Int32 × Mem), f_X10_smooth x1 M = some z → Cn l g (wM b) m_X10_smooth [.ref (b + 0), .int x1] M (some (.int z.1)) z.2 := fun x1 M z  hf => Cn_of (by decide +kernel) (Nat.le_of_ble_eq_true rfl) (V_sub [0, 1] rfl (ok_X10_smooth_b0 x1 M z  hf))

abbrev m_X10_changed : Mth := (yX10_changed, cX10_changed, 7, some .int, 2)
theorem yf_X10_changed : YF m_X10_changed 2 := ⟨tw_1551, tw_75, by decide +kernel, by decide +kernel⟩
def f_X10_changed_b173  (x1 : Int32) (x2 : Int32) (M : Mem) : Option (Int32 × Mem) :=
  if ixb x1 4 = true then
  if ixb x2 4 = true then
  if ixb (((25 : Int32) * (M 5 (ix x1))) + (M 5 (ix x2))) 625 = true then
  some ((M 21 (ix (((25 : Int32) * (M 5 (ix x1))) + (M 5 (ix x2))))), M)
  else none
  else none
  else none
set_option maxRecDepth 20000 in
set_option maxHeartbeats 4000000 in
theorem ok_X10_changed_b173 {l : Launch} {g : Gam} {b : Nat}   (x1 : Int32) (x2 : Int32) (M : Mem) (z : Int32 × Mem)  (hf : f_X10_changed_b173 x1 x2 M = some z) : V l g (wM b) m_X10_changed 173 [(0, .ref (b + 0)), (1, .int x1), (2, .int x2)] [] M (some (.int z.1)) z.2 := by
  unfold f_X10_changed_b173 at hf
  refine V_aload_n (Y := m_X10_changed) (pc := 173) 0 dX10_changed_173 rfl ?_
  refine V_grL (Y := m_X10_changed) (pc := 174) (x := 21) 41 kX10 sM_0 (by decide +kernel) rfl rfl tw_1111 dX10_changed_174 ?_
  refine V_bipush (Y := m_X10_changed) (pc := 177) (x := (25 : Int32)) dX10_changed_177 (by decide +kernel) ?_
  refine V_aload_n (Y := m_X10_changed) (pc := 179) 0 dX10_changed_179 rfl ?_
  refine V_grL (Y := m_X10_changed) (pc := 180) (x := 5) 5 kX10 sM_0 (by decide +kernel) rfl rfl tw_1075 dX10_changed_180 ?_
  refine V_iload_n (Y := m_X10_changed) (pc := 183) 1 dX10_changed_183 rfl ?_
  obtain ⟨hi1, hf⟩ := g_if hf
  refine V_iald (Y := m_X10_changed) (pc := 184) sM_5 hi1 dX10_changed_184 ?_
  refine V_imul (Y := m_X10_changed) (pc := 185) dX10_changed_185 ?_
  refine V_aload_n (Y := m_X10_changed) (pc := 186) 0 dX10_changed_186 rfl ?_
  refine V_grL (Y := m_X10_changed) (pc := 187) (x := 5) 5 kX10 sM_0 (by decide +kernel) rfl rfl tw_1075 dX10_changed_187 ?_
  refine V_iload_n (Y := m_X10_changed) (pc := 190) 2 dX10_changed_190 rfl ?_
  obtain ⟨hi2, hf⟩ := g_if hf
  refine V_iald (Y := m_X10_changed) (pc := 191) sM_5 hi2 dX10_changed_191 ?_
  refine V_iadd (Y := m_X10_changed) (pc := 192) dX10_changed_192 ?_
  obtain ⟨hi3, hf⟩ := g_if hf
  refine V_iald (Y := m_X10_changed) (pc := 193) sM_21 hi3 dX10_changed_193 ?_
  obtain rfl := Option.some.inj hf
  exact V_iret (Y := m_X10_changed) rfl dX10_changed_194
def f_X10_changed_b167 (k2 : Int32 → Int32 → Int32 → Mem → Option (Int32 × Mem)) (x1 : Int32) (x2 : Int32) (x3 : Int32) (M : Mem) : Option (Int32 × Mem) :=
  k2 x1 x2 (x3 + (1 : Int32)) M
set_option maxRecDepth 20000 in
set_option maxHeartbeats 4000000 in
theorem ok_X10_changed_b167 {l : Launch} {g : Gam} {b : Nat} (k2 : Int32 → Int32 → Int32 → Mem → Option (Int32 × Mem)) (hk2 : ∀ (x1 : Int32) (x2 : Int32) (x3 : Int32) (M : Mem) (z : Int32 × Mem), k2 x1 x2 x3 M = some z → V l g (wM b) m_X10_changed 2 [(0, .ref (b + 0)), (1, .int x1), (2, .int x2), (3, .int x3)] [] M (some (.int z.1)) z.2) (x1 : Int32) (x2 : Int32) (x3 : Int32) (M : Mem) (z : Int32 × Mem)  (hf : f_X10_changed_b167 k2 x1 x2 x3 M = some z) : V l g (wM b) m_X10_changed 167 [(0, .ref (b + 0)), (1, .int x1), (2, .int x2), (3, .int x3)] [] M (some (.int z.1)) z.2 := by
  unfold f_X10_changed_b167 at hf
  refine V_iinc (Y := m_X10_changed) (pc := 167) (y := (x3 + (1 : Int32))) 3 [(3, .int (x3 + (1 : Int32))), (0, .ref (b + 0)), (1, .int x1), (2, .int x2)] dX10_changed_167 rfl rfl (by decide +kernel) rfl ?_
  refine V_goto (Y := m_X10_changed) (pc := 170) (tgt := 2) dX10_changed_170 (by decide +kernel) ?_
  exact V_sub [1, 2, 3, 0] rfl (hk2 x1 x2 (x3 + (1 : Int32)) M z  hf)
def f_X10_changed_b147 (k2 : Int32 → Int32 → Int32 → Mem → Option (Int32 × Mem)) (k15 : Int32 → Int32 → Int32 → Int32 → Mem → Option (Int32 × Mem)) (x1 : Int32) (x2 : Int32) (x3 : Int32) (x4 : Int32) (x5 : Int32) (M : Mem) : Option (Int32 × Mem) :=
  if ixb (((25 : Int32) * x3) + x4) 625 = true then
  k15 x1 x2 x3 (x4 + (1 : Int32)) (mset M 21 (ix (((25 : Int32) * x3) + x4)) x5)
  else none
set_option maxRecDepth 20000 in
set_option maxHeartbeats 4000000 in
theorem ok_X10_changed_b147 {l : Launch} {g : Gam} {b : Nat} (k2 : Int32 → Int32 → Int32 → Mem → Option (Int32 × Mem)) (k15 : Int32 → Int32 → Int32 → Int32 → Mem → Option (Int32 × Mem)) (hk2 : ∀ (x1 : Int32) (x2 : Int32) (x3 : Int32) (M : Mem) (z : Int32 × Mem), k2 x1 x2 x3 M = some z → V l g (wM b) m_X10_changed 2 [(0, .ref (b + 0)), (1, .int x1), (2, .int x2), (3, .int x3)] [] M (some (.int z.1)) z.2) (hk15 : ∀ (x1 : Int32) (x2 : Int32) (x3 : Int32) (x4 : Int32) (M : Mem) (z : Int32 × Mem), k15 x1 x2 x3 x4 M = some z → V l g (wM b) m_X10_changed 15 [(0, .ref (b + 0)), (1, .int x1), (2, .int x2), (3, .int x3), (4, .int x4)] [] M (some (.int z.1)) z.2) (x1 : Int32) (x2 : Int32) (x3 : Int32) (x4 : Int32) (x5 : Int32) (M : Mem) (z : Int32 × Mem)  (hf : f_X10_changed_b147 k2 k15 x1 x2 x3 x4 x5 M = some z) : V l g (wM b) m_X10_changed 147 [(0, .ref (b + 0)), (1, .int x1), (2, .int x2), (3, .int x3), (4, .int x4), (5, .int x5)] [] M (some (.int z.1)) z.2 := by
  unfold f_X10_changed_b147 at hf
  refine V_aload_n (Y := m_X10_changed) (pc := 147) 0 dX10_changed_147 rfl ?_
  refine V_grL (Y := m_X10_changed) (pc := 148) (x := 21) 41 kX10 sM_0 (by decide +kernel) rfl rfl tw_1111 dX10_changed_148 ?_
  refine V_bipush (Y := m_X10_changed) (pc := 151) (x := (25 : Int32)) dX10_changed_151 (by decide +kernel) ?_
  refine V_iload_n (Y := m_X10_changed) (pc := 153) 3 dX10_changed_153 rfl ?_
  refine V_imul (Y := m_X10_changed) (pc := 154) dX10_changed_154 ?_
  refine V_iload (Y := m_X10_changed) (pc := 155) 4 dX10_changed_155 rfl ?_
  refine V_iadd (Y := m_X10_changed) (pc := 157) dX10_changed_157 ?_
  refine V_iload (Y := m_X10_changed) (pc := 158) 5 dX10_changed_158 rfl ?_
  obtain ⟨hi1, hf⟩ := g_if hf
  refine V_iast (Y := m_X10_changed) (pc := 160) sM_21 hi1 dX10_changed_160 ?_
  refine V_iinc (Y := m_X10_changed) (pc := 161) (y := (x4 + (1 : Int32))) 4 [(4, .int (x4 + (1 : Int32))), (0, .ref (b + 0)), (1, .int x1), (2, .int x2), (3, .int x3), (5, .int x5)] dX10_changed_161 rfl rfl (by decide +kernel) rfl ?_
  refine V_goto (Y := m_X10_changed) (pc := 164) (tgt := 15) dX10_changed_164 (by decide +kernel) ?_
  exact V_sub [1, 2, 3, 4, 0] rfl (hk15 x1 x2 x3 (x4 + (1 : Int32)) (mset M 21 (ix (((25 : Int32) * x3) + x4)) x5) z  hf)
def f_X10_changed_b104 (k2 : Int32 → Int32 → Int32 → Mem → Option (Int32 × Mem)) (k15 : Int32 → Int32 → Int32 → Int32 → Mem → Option (Int32 × Mem)) (x1 : Int32) (x2 : Int32) (x3 : Int32) (x4 : Int32) (s0 : Int32) (s1 : Int32) (M : Mem) : Option (Int32 × Mem) :=
  if ixb (((25 : Int32) * (x3 - (1 : Int32))) + x4) 625 = true then
  if ixb ((((25 : Int32) * x3) + x4) - (1 : Int32)) 625 = true then
  (f_X10_least (M 21 (ix (((25 : Int32) * (x3 - (1 : Int32))) + x4))) (M 21 (ix ((((25 : Int32) * x3) + x4) - (1 : Int32)))) M).bind fun q3 =>
  (f_X10_least (s1 + s0) ((1 : Int32) + q3.1) q3.2).bind fun q4 =>
  f_X10_changed_b147 k2 k15 x1 x2 x3 x4 q4.1 q4.2
  else none
  else none
set_option maxRecDepth 20000 in
set_option maxHeartbeats 4000000 in
theorem ok_X10_changed_b104 {l : Launch} {g : Gam} {b : Nat} (k2 : Int32 → Int32 → Int32 → Mem → Option (Int32 × Mem)) (k15 : Int32 → Int32 → Int32 → Int32 → Mem → Option (Int32 × Mem)) (hk2 : ∀ (x1 : Int32) (x2 : Int32) (x3 : Int32) (M : Mem) (z : Int32 × Mem), k2 x1 x2 x3 M = some z → V l g (wM b) m_X10_changed 2 [(0, .ref (b + 0)), (1, .int x1), (2, .int x2), (3, .int x3)] [] M (some (.int z.1)) z.2) (hk15 : ∀ (x1 : Int32) (x2 : Int32) (x3 : Int32) (x4 : Int32) (M : Mem) (z : Int32 × Mem), k15 x1 x2 x3 x4 M = some z → V l g (wM b) m_X10_changed 15 [(0, .ref (b + 0)), (1, .int x1), (2, .int x2), (3, .int x3), (4, .int x4)] [] M (some (.int z.1)) z.2) (x1 : Int32) (x2 : Int32) (x3 : Int32) (x4 : Int32) (s0 : Int32) (s1 : Int32) (M : Mem) (z : Int32 × Mem)  (hf : f_X10_changed_b104 k2 k15 x1 x2 x3 x4 s0 s1 M = some z) : V l g (wM b) m_X10_changed 104 [(0, .ref (b + 0)), (1, .int x1), (2, .int x2), (3, .int x3), (4, .int x4)] [.int s0, .int s1] M (some (.int z.1)) z.2 := by
  unfold f_X10_changed_b104 at hf
  refine V_iadd (Y := m_X10_changed) (pc := 104) dX10_changed_104 ?_
  refine V_istore (Y := m_X10_changed) (pc := 105) [(5, .int (s1 + s0)), (0, .ref (b + 0)), (1, .int x1), (2, .int x2), (3, .int x3), (4, .int x4)] dX10_changed_105 (by decide +kernel) rfl ?_
  refine V_iload (Y := m_X10_changed) (pc := 107) 0 dX10_changed_107 rfl ?_
  refine V_iconst (Y := m_X10_changed) (pc := 109) (x := (1 : Int32)) dX10_changed_109 (by decide +kernel) ?_
  refine V_aload_n (Y := m_X10_changed) (pc := 110) 1 dX10_changed_110 rfl ?_
  refine V_grL (Y := m_X10_changed) (pc := 111) (x := 21) 41 kX10 sM_0 (by decide +kernel) rfl rfl tw_1111 dX10_changed_111 ?_
  refine V_bipush (Y := m_X10_changed) (pc := 114) (x := (25 : Int32)) dX10_changed_114 (by decide +kernel) ?_
  refine V_iload_n (Y := m_X10_changed) (pc := 116) 4 dX10_changed_116 rfl ?_
  refine V_iconst (Y := m_X10_changed) (pc := 117) (x := (1 : Int32)) dX10_changed_117 (by decide +kernel) ?_
  refine V_isub (Y := m_X10_changed) (pc := 118) dX10_changed_118 ?_
  refine V_imul (Y := m_X10_changed) (pc := 119) dX10_changed_119 ?_
  refine V_iload (Y := m_X10_changed) (pc := 120) 5 dX10_changed_120 rfl ?_
  refine V_iadd (Y := m_X10_changed) (pc := 122) dX10_changed_122 ?_
  obtain ⟨hi1, hf⟩ := g_if hf
  refine V_iald (Y := m_X10_changed) (pc := 123) sM_21 hi1 dX10_changed_123 ?_
  refine V_aload_n (Y := m_X10_changed) (pc := 124) 1 dX10_changed_124 rfl ?_
  refine V_grL (Y := m_X10_changed) (pc := 125) (x := 21) 41 kX10 sM_0 (by decide +kernel) rfl rfl tw_1111 dX10_changed_125 ?_
  refine V_bipush (Y := m_X10_changed) (pc := 128) (x := (25 : Int32)) dX10_changed_128 (by decide +kernel) ?_
  refine V_iload_n (Y := m_X10_changed) (pc := 130) 4 dX10_changed_130 rfl ?_
  refine V_imul (Y := m_X10_changed) (pc := 131) dX10_changed_131 ?_
  refine V_iload (Y := m_X10_changed) (pc := 132) 5 dX10_changed_132 rfl ?_
  refine V_iadd (Y := m_X10_changed) (pc := 134) dX10_changed_134 ?_
  refine V_iconst (Y := m_X10_changed) (pc := 135) (x := (1 : Int32)) dX10_changed_135 (by decide +kernel) ?_
  refine V_isub (Y := m_X10_changed) (pc := 136) dX10_changed_136 ?_
  obtain ⟨hi2, hf⟩ := g_if hf
  refine V_iald (Y := m_X10_changed) (pc := 137) sM_21 hi2 dX10_changed_137 ?_
  obtain ⟨q3, hq3, hf⟩ := g_bind hf
  refine V_cSi (Y := m_X10_changed) (pc := 138) (As := [.int (M 21 (ix (((25 : Int32) * (x3 - (1 : Int32))) + x4))), .int (M 21 (ix ((((25 : Int32) * x3) + x4) - (1 : Int32))))]) yf_X10_least (by decide +kernel) (ok_X10_least (M 21 (ix (((25 : Int32) * (x3 - (1 : Int32))) + x4))) (M 21 (ix ((((25 : Int32) * x3) + x4) - (1 : Int32)))) M _  hq3) tw_1427 tw_1426 rfl rfl (Nat.le_of_ble_eq_true rfl) dX10_changed_138 ?_
  refine V_iadd (Y := m_X10_changed) (pc := 141) dX10_changed_141 ?_
  obtain ⟨q4, hq4, hf⟩ := g_bind hf
  refine V_cSi (Y := m_X10_changed) (pc := 142) (As := [.int (s1 + s0), .int ((1 : Int32) + q3.1)]) yf_X10_least (by decide +kernel) (ok_X10_least (s1 + s0) ((1 : Int32) + q3.1) q3.2 _  hq4) tw_1427 tw_1426 rfl rfl (Nat.le_of_ble_eq_true rfl) dX10_changed_142 ?_
  refine V_istore (Y := m_X10_changed) (pc := 145) [(5, .int q4.1), (0, .ref (b + 0)), (1, .int x1), (2, .int x2), (3, .int x3), (4, .int x4)] dX10_changed_145 (by decide +kernel) rfl ?_
  exact V_sub [1, 2, 3, 4, 5, 0] rfl (ok_X10_changed_b147 k2 k15 hk2 hk15 x1 x2 x3 x4 q4.1 q4.2 z  hf)
def f_X10_changed_b76 (k2 : Int32 → Int32 → Int32 → Mem → Option (Int32 × Mem)) (k15 : Int32 → Int32 → Int32 → Int32 → Mem → Option (Int32 × Mem)) (x1 : Int32) (x2 : Int32) (x3 : Int32) (x4 : Int32) (s0 : Int32) (M : Mem) : Option (Int32 × Mem) :=
  if ixb ((((25 : Int32) * (x3 - (1 : Int32))) + x4) - (1 : Int32)) 625 = true then
  if s0 = 0 then
    f_X10_changed_b104 k2 k15 x1 x2 x3 x4 (1 : Int32) (M 21 (ix ((((25 : Int32) * (x3 - (1 : Int32))) + x4) - (1 : Int32)))) M
  else
    f_X10_changed_b104 k2 k15 x1 x2 x3 x4 (0 : Int32) (M 21 (ix ((((25 : Int32) * (x3 - (1 : Int32))) + x4) - (1 : Int32)))) M
  else none
set_option maxRecDepth 20000 in
set_option maxHeartbeats 4000000 in
theorem ok_X10_changed_b76 {l : Launch} {g : Gam} {b : Nat} (k2 : Int32 → Int32 → Int32 → Mem → Option (Int32 × Mem)) (k15 : Int32 → Int32 → Int32 → Int32 → Mem → Option (Int32 × Mem)) (hk2 : ∀ (x1 : Int32) (x2 : Int32) (x3 : Int32) (M : Mem) (z : Int32 × Mem), k2 x1 x2 x3 M = some z → V l g (wM b) m_X10_changed 2 [(0, .ref (b + 0)), (1, .int x1), (2, .int x2), (3, .int x3)] [] M (some (.int z.1)) z.2) (hk15 : ∀ (x1 : Int32) (x2 : Int32) (x3 : Int32) (x4 : Int32) (M : Mem) (z : Int32 × Mem), k15 x1 x2 x3 x4 M = some z → V l g (wM b) m_X10_changed 15 [(0, .ref (b + 0)), (1, .int x1), (2, .int x2), (3, .int x3), (4, .int x4)] [] M (some (.int z.1)) z.2) (x1 : Int32) (x2 : Int32) (x3 : Int32) (x4 : Int32) (s0 : Int32) (M : Mem) (z : Int32 × Mem)  (hf : f_X10_changed_b76 k2 k15 x1 x2 x3 x4 s0 M = some z) : V l g (wM b) m_X10_changed 76 [(0, .ref (b + 0)), (1, .int x1), (2, .int x2), (3, .int x3), (4, .int x4)] [.int s0] M (some (.int z.1)) z.2 := by
  unfold f_X10_changed_b76 at hf
  refine V_istore (Y := m_X10_changed) (pc := 76) [(6, .int s0), (0, .ref (b + 0)), (1, .int x1), (2, .int x2), (3, .int x3), (4, .int x4)] dX10_changed_76 (by decide +kernel) rfl ?_
  refine V_aload_n (Y := m_X10_changed) (pc := 78) 1 dX10_changed_78 rfl ?_
  refine V_grL (Y := m_X10_changed) (pc := 79) (x := 21) 41 kX10 sM_0 (by decide +kernel) rfl rfl tw_1111 dX10_changed_79 ?_
  refine V_bipush (Y := m_X10_changed) (pc := 82) (x := (25 : Int32)) dX10_changed_82 (by decide +kernel) ?_
  refine V_iload_n (Y := m_X10_changed) (pc := 84) 4 dX10_changed_84 rfl ?_
  refine V_iconst (Y := m_X10_changed) (pc := 85) (x := (1 : Int32)) dX10_changed_85 (by decide +kernel) ?_
  refine V_isub (Y := m_X10_changed) (pc := 86) dX10_changed_86 ?_
  refine V_imul (Y := m_X10_changed) (pc := 87) dX10_changed_87 ?_
  refine V_iload (Y := m_X10_changed) (pc := 88) 5 dX10_changed_88 rfl ?_
  refine V_iadd (Y := m_X10_changed) (pc := 90) dX10_changed_90 ?_
  refine V_iconst (Y := m_X10_changed) (pc := 91) (x := (1 : Int32)) dX10_changed_91 (by decide +kernel) ?_
  refine V_isub (Y := m_X10_changed) (pc := 92) dX10_changed_92 ?_
  obtain ⟨hi1, hf⟩ := g_if hf
  refine V_iald (Y := m_X10_changed) (pc := 93) sM_21 hi1 dX10_changed_93 ?_
  refine V_iload (Y := m_X10_changed) (pc := 94) 0 dX10_changed_94 rfl ?_
  refine V_if_eq (Y := m_X10_changed) (pc := 96) (tgt := 103) dX10_changed_96 (by decide +kernel) hf (fun hf => ?_) (fun hf => ?_)
  · refine V_iconst (Y := m_X10_changed) (pc := 103) (x := (1 : Int32)) dX10_changed_103 (by decide +kernel) ?_
    exact V_sub [1, 2, 3, 4, 5] rfl (ok_X10_changed_b104 k2 k15 hk2 hk15 x1 x2 x3 x4 (1 : Int32) (M 21 (ix ((((25 : Int32) * (x3 - (1 : Int32))) + x4) - (1 : Int32)))) M z  hf)
  · refine V_iconst (Y := m_X10_changed) (pc := 99) (x := (0 : Int32)) dX10_changed_99 (by decide +kernel) ?_
    refine V_goto (Y := m_X10_changed) (pc := 100) (tgt := 104) dX10_changed_100 (by decide +kernel) ?_
    exact V_sub [1, 2, 3, 4, 5] rfl (ok_X10_changed_b104 k2 k15 hk2 hk15 x1 x2 x3 x4 (0 : Int32) (M 21 (ix ((((25 : Int32) * (x3 - (1 : Int32))) + x4) - (1 : Int32)))) M z  hf)
def f_X10_changed_b15 (k2 : Int32 → Int32 → Int32 → Mem → Option (Int32 × Mem)) : Nat → Int32 → Int32 → Int32 → Int32 → Mem → Option (Int32 × Mem)
  | 0, _, _, _, _, _ => none
  | n + 1, x1, x2, x3, x4, M =>
    if ixb x2 4 = true then
    if (M 5 (ix x2)) < x4 then
      f_X10_changed_b167 k2 x1 x2 x3 M
    else
      if x3 ≤ 0 then
        f_X10_changed_b147 k2 (f_X10_changed_b15 k2 n) x1 x2 x3 x4 (x3 + x4) M
      else
        if x4 ≤ 0 then
          f_X10_changed_b147 k2 (f_X10_changed_b15 k2 n) x1 x2 x3 x4 (x3 + x4) M
        else
          if ixb ((((24 : Int32) * x1) + x3) - (1 : Int32)) 96 = true then
          if ixb ((((24 : Int32) * x2) + x4) - (1 : Int32)) 96 = true then
          if (M 6 (ix ((((24 : Int32) * x1) + x3) - (1 : Int32)))) = (M 6 (ix ((((24 : Int32) * x2) + x4) - (1 : Int32)))) then
            f_X10_changed_b76 k2 (f_X10_changed_b15 k2 n) x1 x2 x3 x4 (1 : Int32) M
          else
            f_X10_changed_b76 k2 (f_X10_changed_b15 k2 n) x1 x2 x3 x4 (0 : Int32) M
          else none
          else none
    else none
set_option maxRecDepth 20000 in
set_option maxHeartbeats 4000000 in
theorem ok_X10_changed_b15 {l : Launch} {g : Gam} {b : Nat} (k2 : Int32 → Int32 → Int32 → Mem → Option (Int32 × Mem)) (hk2 : ∀ (x1 : Int32) (x2 : Int32) (x3 : Int32) (M : Mem) (z : Int32 × Mem), k2 x1 x2 x3 M = some z → V l g (wM b) m_X10_changed 2 [(0, .ref (b + 0)), (1, .int x1), (2, .int x2), (3, .int x3)] [] M (some (.int z.1)) z.2) : ∀ (n : Nat) (x1 : Int32) (x2 : Int32) (x3 : Int32) (x4 : Int32) (M : Mem) (z : Int32 × Mem), f_X10_changed_b15 k2 n x1 x2 x3 x4 M = some z → V l g (wM b) m_X10_changed 15 [(0, .ref (b + 0)), (1, .int x1), (2, .int x2), (3, .int x3), (4, .int x4)] [] M (some (.int z.1)) z.2 := by
  intro n
  induction n with
  | zero =>
    intro x1 x2 x3 x4 M z  hf
    cases hf
  | succ n ih =>
    intro x1 x2 x3 x4 M z  hf
    rw [f_X10_changed_b15] at hf
    refine V_iload (Y := m_X10_changed) (pc := 15) 4 dX10_changed_15 rfl ?_
    refine V_aload_n (Y := m_X10_changed) (pc := 17) 0 dX10_changed_17 rfl ?_
    refine V_grL (Y := m_X10_changed) (pc := 18) (x := 5) 5 kX10 sM_0 (by decide +kernel) rfl rfl tw_1075 dX10_changed_18 ?_
    refine V_iload_n (Y := m_X10_changed) (pc := 21) 2 dX10_changed_21 rfl ?_
    obtain ⟨hi1, hf⟩ := g_if hf
    refine V_iald (Y := m_X10_changed) (pc := 22) sM_5 hi1 dX10_changed_22 ?_
    refine V_icmp_gt (Y := m_X10_changed) (pc := 23) (tgt := 167) dX10_changed_23 (by decide +kernel) hf (fun hf => ?_) (fun hf => ?_)
    · exact V_sub [0, 1, 2, 3] rfl (ok_X10_changed_b167 k2 hk2 x1 x2 x3 M z  hf)
    · refine V_iload_n (Y := m_X10_changed) (pc := 26) 3 dX10_changed_26 rfl ?_
      refine V_iload (Y := m_X10_changed) (pc := 27) 4 dX10_changed_27 rfl ?_
      refine V_iadd (Y := m_X10_changed) (pc := 29) dX10_changed_29 ?_
      refine V_istore (Y := m_X10_changed) (pc := 30) [(5, .int (x3 + x4)), (0, .ref (b + 0)), (1, .int x1), (2, .int x2), (3, .int x3), (4, .int x4)] dX10_changed_30 (by decide +kernel) rfl ?_
      refine V_iload_n (Y := m_X10_changed) (pc := 32) 4 dX10_changed_32 rfl ?_
      refine V_if_le (Y := m_X10_changed) (pc := 33) (tgt := 147) dX10_changed_33 (by decide +kernel) hf (fun hf => ?_) (fun hf => ?_)
      · exact V_sub [1, 2, 3, 4, 5, 0] rfl (ok_X10_changed_b147 k2 (f_X10_changed_b15 k2 n) hk2 ih x1 x2 x3 x4 (x3 + x4) M z  hf)
      · refine V_iload (Y := m_X10_changed) (pc := 36) 5 dX10_changed_36 rfl ?_
        refine V_if_le (Y := m_X10_changed) (pc := 38) (tgt := 147) dX10_changed_38 (by decide +kernel) hf (fun hf => ?_) (fun hf => ?_)
        · exact V_sub [1, 2, 3, 4, 5, 0] rfl (ok_X10_changed_b147 k2 (f_X10_changed_b15 k2 n) hk2 ih x1 x2 x3 x4 (x3 + x4) M z  hf)
        · refine V_aload_n (Y := m_X10_changed) (pc := 41) 1 dX10_changed_41 rfl ?_
          refine V_grL (Y := m_X10_changed) (pc := 42) (x := 6) 6 kX10 sM_0 (by decide +kernel) rfl rfl tw_1076 dX10_changed_42 ?_
          refine V_bipush (Y := m_X10_changed) (pc := 45) (x := (24 : Int32)) dX10_changed_45 (by decide +kernel) ?_
          refine V_iload_n (Y := m_X10_changed) (pc := 47) 2 dX10_changed_47 rfl ?_
          refine V_imul (Y := m_X10_changed) (pc := 48) dX10_changed_48 ?_
          refine V_iload_n (Y := m_X10_changed) (pc := 49) 4 dX10_changed_49 rfl ?_
          refine V_iadd (Y := m_X10_changed) (pc := 50) dX10_changed_50 ?_
          refine V_iconst (Y := m_X10_changed) (pc := 51) (x := (1 : Int32)) dX10_changed_51 (by decide +kernel) ?_
          refine V_isub (Y := m_X10_changed) (pc := 52) dX10_changed_52 ?_
          obtain ⟨hi2, hf⟩ := g_if hf
          refine V_iald (Y := m_X10_changed) (pc := 53) sM_6 hi2 dX10_changed_53 ?_
          refine V_aload_n (Y := m_X10_changed) (pc := 54) 1 dX10_changed_54 rfl ?_
          refine V_grL (Y := m_X10_changed) (pc := 55) (x := 6) 6 kX10 sM_0 (by decide +kernel) rfl rfl tw_1076 dX10_changed_55 ?_
          refine V_bipush (Y := m_X10_changed) (pc := 58) (x := (24 : Int32)) dX10_changed_58 (by decide +kernel) ?_
          refine V_iload_n (Y := m_X10_changed) (pc := 60) 3 dX10_changed_60 rfl ?_
          refine V_imul (Y := m_X10_changed) (pc := 61) dX10_changed_61 ?_
          refine V_iload (Y := m_X10_changed) (pc := 62) 5 dX10_changed_62 rfl ?_
          refine V_iadd (Y := m_X10_changed) (pc := 64) dX10_changed_64 ?_
          refine V_iconst (Y := m_X10_changed) (pc := 65) (x := (1 : Int32)) dX10_changed_65 (by decide +kernel) ?_
          refine V_isub (Y := m_X10_changed) (pc := 66) dX10_changed_66 ?_
          obtain ⟨hi3, hf⟩ := g_if hf
          refine V_iald (Y := m_X10_changed) (pc := 67) sM_6 hi3 dX10_changed_67 ?_
          refine V_icmp_ne (Y := m_X10_changed) (pc := 68) (tgt := 75) dX10_changed_68 (by decide +kernel) hf (fun hf => ?_) (fun hf => ?_)
          · refine V_iconst (Y := m_X10_changed) (pc := 75) (x := (0 : Int32)) dX10_changed_75 (by decide +kernel) ?_
            exact V_sub [1, 2, 3, 4, 5] rfl (ok_X10_changed_b76 k2 (f_X10_changed_b15 k2 n) hk2 ih x1 x2 x3 x4 (0 : Int32) M z  hf)
          · refine V_iconst (Y := m_X10_changed) (pc := 71) (x := (1 : Int32)) dX10_changed_71 (by decide +kernel) ?_
            refine V_goto (Y := m_X10_changed) (pc := 72) (tgt := 76) dX10_changed_72 (by decide +kernel) ?_
            exact V_sub [1, 2, 3, 4, 5] rfl (ok_X10_changed_b76 k2 (f_X10_changed_b15 k2 n) hk2 ih x1 x2 x3 x4 (1 : Int32) M z  hf)
def f_X10_changed_b2  : Nat → Int32 → Int32 → Int32 → Mem → Option (Int32 × Mem)
  | 0, _, _, _, _ => none
  | n + 1, x1, x2, x3, M =>
    if ixb x1 4 = true then
    if (M 5 (ix x1)) < x3 then
      f_X10_changed_b173  x1 x2 M
    else
      f_X10_changed_b15 (f_X10_changed_b2  n) FU x1 x2 x3 (0 : Int32) M
    else none
set_option maxRecDepth 20000 in
set_option maxHeartbeats 4000000 in
theorem ok_X10_changed_b2 {l : Launch} {g : Gam} {b : Nat}   : ∀ (n : Nat) (x1 : Int32) (x2 : Int32) (x3 : Int32) (M : Mem) (z : Int32 × Mem), f_X10_changed_b2  n x1 x2 x3 M = some z → V l g (wM b) m_X10_changed 2 [(0, .ref (b + 0)), (1, .int x1), (2, .int x2), (3, .int x3)] [] M (some (.int z.1)) z.2 := by
  intro n
  induction n with
  | zero =>
    intro x1 x2 x3 M z  hf
    cases hf
  | succ n ih =>
    intro x1 x2 x3 M z  hf
    rw [f_X10_changed_b2] at hf
    refine V_iload_n (Y := m_X10_changed) (pc := 2) 3 dX10_changed_2 rfl ?_
    refine V_aload_n (Y := m_X10_changed) (pc := 3) 0 dX10_changed_3 rfl ?_
    refine V_grL (Y := m_X10_changed) (pc := 4) (x := 5) 5 kX10 sM_0 (by decide +kernel) rfl rfl tw_1075 dX10_changed_4 ?_
    refine V_iload_n (Y := m_X10_changed) (pc := 7) 1 dX10_changed_7 rfl ?_
    obtain ⟨hi1, hf⟩ := g_if hf
    refine V_iald (Y := m_X10_changed) (pc := 8) sM_5 hi1 dX10_changed_8 ?_
    refine V_icmp_gt (Y := m_X10_changed) (pc := 9) (tgt := 173) dX10_changed_9 (by decide +kernel) hf (fun hf => ?_) (fun hf => ?_)
    · exact V_sub [0, 1, 2] rfl (ok_X10_changed_b173  x1 x2 M z  hf)
    · refine V_iconst (Y := m_X10_changed) (pc := 12) (x := (0 : Int32)) dX10_changed_12 (by decide +kernel) ?_
      refine V_istore (Y := m_X10_changed) (pc := 13) [(4, .int (0 : Int32)), (0, .ref (b + 0)), (1, .int x1), (2, .int x2), (3, .int x3)] dX10_changed_13 (by decide +kernel) rfl ?_
      exact V_sub [1, 2, 3, 4, 0] rfl (ok_X10_changed_b15 (f_X10_changed_b2  n) ih FU x1 x2 x3 (0 : Int32) M z  hf)
def f_X10_changed_b0  (x1 : Int32) (x2 : Int32) (M : Mem) : Option (Int32 × Mem) :=
  f_X10_changed_b2  FU x1 x2 (0 : Int32) M
set_option maxRecDepth 20000 in
set_option maxHeartbeats 4000000 in
theorem ok_X10_changed_b0 {l : Launch} {g : Gam} {b : Nat}   (x1 : Int32) (x2 : Int32) (M : Mem) (z : Int32 × Mem)  (hf : f_X10_changed_b0 x1 x2 M = some z) : V l g (wM b) m_X10_changed 0 [(0, .ref (b + 0)), (1, .int x1), (2, .int x2)] [] M (some (.int z.1)) z.2 := by
  unfold f_X10_changed_b0 at hf
  refine V_iconst (Y := m_X10_changed) (pc := 0) (x := (0 : Int32)) dX10_changed_0 (by decide +kernel) ?_
  refine V_istore_n (Y := m_X10_changed) (pc := 1) [(3, .int (0 : Int32)), (0, .ref (b + 0)), (1, .int x1), (2, .int x2)] dX10_changed_1 (by decide +kernel) rfl ?_
  exact V_sub [1, 2, 3, 0] rfl (ok_X10_changed_b2  FU x1 x2 (0 : Int32) M z  hf)
def f_X10_changed (x1 : Int32) (x2 : Int32) (M : Mem) : Option (Int32 × Mem) := f_X10_changed_b0 x1 x2 M
set_option maxRecDepth 20000 in
set_option maxHeartbeats 4000000 in
theorem ok_X10_changed {l : Launch} {g : Gam} {b : Nat} : ∀ (x1 : Int32) (x2 : Int32) (M : Mem) (z : Int32 × Mem), f_X10_changed x1 x2 M = some z → Cn l g (wM b) m_X10_changed [.ref (b + 0), .int x1, .int x2] M (some (.int z.1)) z.2 := fun x1 x2 M z  hf => Cn_of (by decide +kernel) (Nat.le_of_ble_eq_true rfl) (V_sub [0, 1, 2] rfl (ok_X10_changed_b0 x1 x2 M z  hf))

abbrev m_X10_changes : Mth := (yX10_changes, cX10_changes, 3, some .int, 3)
theorem yf_X10_changes : YF m_X10_changes 2 := ⟨tw_1547, tw_75, by decide +kernel, by decide +kernel⟩
def f_X10_changes_b35   (M : Mem) : Option (Int32 × Mem) :=
  some ((-1000000011 : Int32), M)
set_option maxRecDepth 20000 in
set_option maxHeartbeats 4000000 in
theorem ok_X10_changes_b35 {l : Launch} {g : Gam} {b : Nat}    (M : Mem) (z : Int32 × Mem)  (hf : f_X10_changes_b35  M = some z) : V l g (wM b) m_X10_changes 35 [] [] M (some (.int z.1)) z.2 := by
  unfold f_X10_changes_b35 at hf
  refine V_ldcw (Y := m_X10_changes) (pc := 35) (x := (-1000000011 : Int32)) dX10_changes_35 tw_1539 ?_
  obtain rfl := Option.some.inj hf
  exact V_iret (Y := m_X10_changes) rfl dX10_changes_38
def f_X10_changes_b0  (x1 : Int32) (x2 : Int32) (M : Mem) : Option (Int32 × Mem) :=
  (f_X10_isSheet x1 M).bind fun q1 =>
  if q1.1 = 0 then
    some ((-1000000001 : Int32), q1.2)
  else
    (f_X10_isSheet x2 q1.2).bind fun q2 =>
    if q2.1 = 0 then
      some ((-1000000001 : Int32), q2.2)
    else
      if ixb x1 4 = true then
      if (q2.2 4 (ix x1)) < 0 then
        f_X10_changes_b35   q2.2
      else
        if ixb x2 4 = true then
        if 0 ≤ (q2.2 4 (ix x2)) then
          if ixb x1 4 = true then
          if ixb x2 4 = true then
          if (q2.2 4 (ix x1)) = (q2.2 4 (ix x2)) then
            (f_X10_changed x1 x2 q2.2).bind fun q7 =>
            some (q7.1, q7.2)
          else
            some ((-1000000012 : Int32), q2.2)
          else none
          else none
        else
          f_X10_changes_b35   q2.2
        else none
      else none
set_option maxRecDepth 20000 in
set_option maxHeartbeats 4000000 in
theorem ok_X10_changes_b0 {l : Launch} {g : Gam} {b : Nat}   (x1 : Int32) (x2 : Int32) (M : Mem) (z : Int32 × Mem)  (hf : f_X10_changes_b0 x1 x2 M = some z) : V l g (wM b) m_X10_changes 0 [(0, .ref (b + 0)), (1, .int x1), (2, .int x2)] [] M (some (.int z.1)) z.2 := by
  unfold f_X10_changes_b0 at hf
  refine V_iload_n (Y := m_X10_changes) (pc := 0) 1 dX10_changes_0 rfl ?_
  obtain ⟨q1, hq1, hf⟩ := g_bind hf
  refine V_cSi (Y := m_X10_changes) (pc := 1) (As := [.int x1]) yf_X10_isSheet (by decide +kernel) (ok_X10_isSheet x1 M _  hq1) tw_1537 tw_1536 rfl rfl (Nat.le_of_ble_eq_true rfl) dX10_changes_1 ?_
  refine V_if_eq (Y := m_X10_changes) (pc := 4) (tgt := 14) dX10_changes_4 (by decide +kernel) hf (fun hf => ?_) (fun hf => ?_)
  · refine V_ldc (Y := m_X10_changes) (pc := 14) (x := (-1000000001 : Int32)) dX10_changes_14 tw_1224 ?_
    obtain rfl := Option.some.inj hf
    exact V_iret (Y := m_X10_changes) rfl dX10_changes_16
  · refine V_iload_n (Y := m_X10_changes) (pc := 7) 2 dX10_changes_7 rfl ?_
    obtain ⟨q2, hq2, hf⟩ := g_bind hf
    refine V_cSi (Y := m_X10_changes) (pc := 8) (As := [.int x2]) yf_X10_isSheet (by decide +kernel) (ok_X10_isSheet x2 q1.2 _  hq2) tw_1537 tw_1536 rfl rfl (Nat.le_of_ble_eq_true rfl) dX10_changes_8 ?_
    refine V_if_ne (Y := m_X10_changes) (pc := 11) (tgt := 17) dX10_changes_11 (by decide +kernel) hf (fun hf => ?_) (fun hf => ?_)
    · refine V_aload_n (Y := m_X10_changes) (pc := 17) 0 dX10_changes_17 rfl ?_
      refine V_grL (Y := m_X10_changes) (pc := 18) (x := 4) 4 kX10 sM_0 (by decide +kernel) rfl rfl tw_1074 dX10_changes_18 ?_
      refine V_iload_n (Y := m_X10_changes) (pc := 21) 1 dX10_changes_21 rfl ?_
      obtain ⟨hi3, hf⟩ := g_if hf
      refine V_iald (Y := m_X10_changes) (pc := 22) sM_4 hi3 dX10_changes_22 ?_
      refine V_if_lt (Y := m_X10_changes) (pc := 23) (tgt := 35) dX10_changes_23 (by decide +kernel) hf (fun hf => ?_) (fun hf => ?_)
      · exact V_sub [] rfl (ok_X10_changes_b35   q2.2 z  hf)
      · refine V_aload_n (Y := m_X10_changes) (pc := 26) 0 dX10_changes_26 rfl ?_
        refine V_grL (Y := m_X10_changes) (pc := 27) (x := 4) 4 kX10 sM_0 (by decide +kernel) rfl rfl tw_1074 dX10_changes_27 ?_
        refine V_iload_n (Y := m_X10_changes) (pc := 30) 2 dX10_changes_30 rfl ?_
        obtain ⟨hi4, hf⟩ := g_if hf
        refine V_iald (Y := m_X10_changes) (pc := 31) sM_4 hi4 dX10_changes_31 ?_
        refine V_if_ge (Y := m_X10_changes) (pc := 32) (tgt := 39) dX10_changes_32 (by decide +kernel) hf (fun hf => ?_) (fun hf => ?_)
        · refine V_aload_n (Y := m_X10_changes) (pc := 39) 0 dX10_changes_39 rfl ?_
          refine V_grL (Y := m_X10_changes) (pc := 40) (x := 4) 4 kX10 sM_0 (by decide +kernel) rfl rfl tw_1074 dX10_changes_40 ?_
          refine V_iload_n (Y := m_X10_changes) (pc := 43) 1 dX10_changes_43 rfl ?_
          obtain ⟨hi5, hf⟩ := g_if hf
          refine V_iald (Y := m_X10_changes) (pc := 44) sM_4 hi5 dX10_changes_44 ?_
          refine V_aload_n (Y := m_X10_changes) (pc := 45) 0 dX10_changes_45 rfl ?_
          refine V_grL (Y := m_X10_changes) (pc := 46) (x := 4) 4 kX10 sM_0 (by decide +kernel) rfl rfl tw_1074 dX10_changes_46 ?_
          refine V_iload_n (Y := m_X10_changes) (pc := 49) 2 dX10_changes_49 rfl ?_
          obtain ⟨hi6, hf⟩ := g_if hf
          refine V_iald (Y := m_X10_changes) (pc := 50) sM_4 hi6 dX10_changes_50 ?_
          refine V_icmp_eq (Y := m_X10_changes) (pc := 51) (tgt := 59) dX10_changes_51 (by decide +kernel) hf (fun hf => ?_) (fun hf => ?_)
          · refine V_aload_n (Y := m_X10_changes) (pc := 59) 0 dX10_changes_59 rfl ?_
            refine V_iload_n (Y := m_X10_changes) (pc := 60) 1 dX10_changes_60 rfl ?_
            refine V_iload_n (Y := m_X10_changes) (pc := 61) 2 dX10_changes_61 rfl ?_
            obtain ⟨q7, hq7, hf⟩ := g_bind hf
            refine V_cVi (Y := m_X10_changes) (pc := 62) (As := [.int x1, .int x2]) yf_X10_changed kX10 sM_0 (by decide +kernel) (ok_X10_changed x1 x2 q2.2 _  hq7) tw_1550 tw_59 tw_1548 rfl rfl (Nat.le_of_ble_eq_true rfl) dX10_changes_62 ?_
            obtain rfl := Option.some.inj hf
            exact V_iret (Y := m_X10_changes) rfl dX10_changes_65
          · refine V_ldc (Y := m_X10_changes) (pc := 54) (x := (-1000000012 : Int32)) dX10_changes_54 tw_1302 ?_
            refine V_goto (Y := m_X10_changes) (pc := 56) (tgt := 65) dX10_changes_56 (by decide +kernel) ?_
            obtain rfl := Option.some.inj hf
            exact V_iret (Y := m_X10_changes) rfl dX10_changes_65
        · exact V_sub [] rfl (ok_X10_changes_b35   q2.2 z  hf)
    · refine V_ldc (Y := m_X10_changes) (pc := 14) (x := (-1000000001 : Int32)) dX10_changes_14 tw_1224 ?_
      obtain rfl := Option.some.inj hf
      exact V_iret (Y := m_X10_changes) rfl dX10_changes_16
def f_X10_changes (x1 : Int32) (x2 : Int32) (M : Mem) : Option (Int32 × Mem) := f_X10_changes_b0 x1 x2 M
set_option maxRecDepth 20000 in
set_option maxHeartbeats 4000000 in
theorem ok_X10_changes {l : Launch} {g : Gam} {b : Nat} : ∀ (x1 : Int32) (x2 : Int32) (M : Mem) (z : Int32 × Mem), f_X10_changes x1 x2 M = some z → Cn l g (wM b) m_X10_changes [.ref (b + 0), .int x1, .int x2] M (some (.int z.1)) z.2 := fun x1 x2 M z  hf => Cn_of (by decide +kernel) (Nat.le_of_ble_eq_true rfl) (V_sub [0, 1, 2] rfl (ok_X10_changes_b0 x1 x2 M z  hf))

abbrev m_X10_from : Mth := (yX10_from, cX10_from, 6, some .int, 3)
theorem yf_X10_from : YF m_X10_from 1 := ⟨tw_1555, tw_75, by decide +kernel, by decide +kernel⟩
def f_X10_from_b89  (x2 : Int32) (M : Mem) : Option (Int32 × Mem) :=
  (f_X10_orNone x2 M).bind fun q1 =>
  some (q1.1, q1.2)
set_option maxRecDepth 20000 in
set_option maxHeartbeats 4000000 in
theorem ok_X10_from_b89 {l : Launch} {g : Gam} {b : Nat}   (x2 : Int32) (M : Mem) (z : Int32 × Mem)  (hf : f_X10_from_b89 x2 M = some z) : V l g (wM b) m_X10_from 89 [(2, .int x2)] [] M (some (.int z.1)) z.2 := by
  unfold f_X10_from_b89 at hf
  refine V_iload_n (Y := m_X10_from) (pc := 89) 0 dX10_from_89 rfl ?_
  obtain ⟨q1, hq1, hf⟩ := g_bind hf
  refine V_cSi (Y := m_X10_from) (pc := 90) (As := [.int x2]) yf_X10_orNone (by decide +kernel) (ok_X10_orNone x2 M _  hq1) tw_1247 tw_1246 rfl rfl (Nat.le_of_ble_eq_true rfl) dX10_from_90 ?_
  obtain rfl := Option.some.inj hf
  exact V_iret (Y := m_X10_from) rfl dX10_from_93
def f_X10_from_b83 (k30 : Int32 → Int32 → Int32 → Int32 → Mem → Option (Int32 × Mem)) (x1 : Int32) (x2 : Int32) (x3 : Int32) (x4 : Int32) (M : Mem) : Option (Int32 × Mem) :=
  k30 x1 x2 x3 (x4 + (1 : Int32)) M
set_option maxRecDepth 20000 in
set_option maxHeartbeats 4000000 in
theorem ok_X10_from_b83 {l : Launch} {g : Gam} {b : Nat} (k30 : Int32 → Int32 → Int32 → Int32 → Mem → Option (Int32 × Mem)) (hk30 : ∀ (x1 : Int32) (x2 : Int32) (x3 : Int32) (x4 : Int32) (M : Mem) (z : Int32 × Mem), k30 x1 x2 x3 x4 M = some z → V l g (wM b) m_X10_from 30 [(0, .ref (b + 0)), (1, .int x1), (2, .int x2), (3, .int x3), (4, .int x4)] [] M (some (.int z.1)) z.2) (x1 : Int32) (x2 : Int32) (x3 : Int32) (x4 : Int32) (M : Mem) (z : Int32 × Mem)  (hf : f_X10_from_b83 k30 x1 x2 x3 x4 M = some z) : V l g (wM b) m_X10_from 83 [(0, .ref (b + 0)), (1, .int x1), (2, .int x2), (3, .int x3), (4, .int x4)] [] M (some (.int z.1)) z.2 := by
  unfold f_X10_from_b83 at hf
  refine V_iinc (Y := m_X10_from) (pc := 83) (y := (x4 + (1 : Int32))) 4 [(4, .int (x4 + (1 : Int32))), (0, .ref (b + 0)), (1, .int x1), (2, .int x2), (3, .int x3)] dX10_from_83 rfl rfl (by decide +kernel) rfl ?_
  refine V_goto (Y := m_X10_from) (pc := 86) (tgt := 30) dX10_from_86 (by decide +kernel) ?_
  exact V_sub [1, 2, 3, 4, 0] rfl (hk30 x1 x2 x3 (x4 + (1 : Int32)) M z  hf)
def f_X10_from_b77 (k30 : Int32 → Int32 → Int32 → Int32 → Mem → Option (Int32 × Mem)) (x1 : Int32) (x4 : Int32) (x5 : Int32) (M : Mem) : Option (Int32 × Mem) :=
  f_X10_from_b83 k30 x1 x4 x5 x4 M
set_option maxRecDepth 20000 in
set_option maxHeartbeats 4000000 in
theorem ok_X10_from_b77 {l : Launch} {g : Gam} {b : Nat} (k30 : Int32 → Int32 → Int32 → Int32 → Mem → Option (Int32 × Mem)) (hk30 : ∀ (x1 : Int32) (x2 : Int32) (x3 : Int32) (x4 : Int32) (M : Mem) (z : Int32 × Mem), k30 x1 x2 x3 x4 M = some z → V l g (wM b) m_X10_from 30 [(0, .ref (b + 0)), (1, .int x1), (2, .int x2), (3, .int x3), (4, .int x4)] [] M (some (.int z.1)) z.2) (x1 : Int32) (x4 : Int32) (x5 : Int32) (M : Mem) (z : Int32 × Mem)  (hf : f_X10_from_b77 k30 x1 x4 x5 M = some z) : V l g (wM b) m_X10_from 77 [(0, .ref (b + 0)), (1, .int x1), (4, .int x4), (5, .int x5)] [] M (some (.int z.1)) z.2 := by
  unfold f_X10_from_b77 at hf
  refine V_iload (Y := m_X10_from) (pc := 77) 2 dX10_from_77 rfl ?_
  refine V_istore_n (Y := m_X10_from) (pc := 79) [(2, .int x4), (0, .ref (b + 0)), (1, .int x1), (4, .int x4), (5, .int x5)] dX10_from_79 (by decide +kernel) rfl ?_
  refine V_iload (Y := m_X10_from) (pc := 80) 4 dX10_from_80 rfl ?_
  refine V_istore_n (Y := m_X10_from) (pc := 82) [(3, .int x5), (2, .int x4), (0, .ref (b + 0)), (1, .int x1), (4, .int x4), (5, .int x5)] dX10_from_82 (by decide +kernel) rfl ?_
  exact V_sub [2, 3, 1, 0, 4] rfl (ok_X10_from_b83 k30 hk30 x1 x4 x5 x4 M z  hf)
def f_X10_from_b30  : Nat → Int32 → Int32 → Int32 → Int32 → Mem → Option (Int32 × Mem)
  | 0, _, _, _, _, _ => none
  | n + 1, x1, x2, x3, x4, M =>
    if (4 : Int32) ≤ x4 then
      f_X10_from_b89  x2 M
    else
      if x4 = x1 then
        f_X10_from_b83 (f_X10_from_b30  n) x1 x2 x3 x4 M
      else
        if ixb x4 4 = true then
        if ixb x1 4 = true then
        if (M 4 (ix x4)) = (M 4 (ix x1)) then
          (f_X10_changed x4 x1 M).bind fun q3 =>
          if x2 < 0 then
            f_X10_from_b77 (f_X10_from_b30  n) x1 x4 q3.1 q3.2
          else
            if x3 ≤ q3.1 then
              f_X10_from_b83 (f_X10_from_b30  n) x1 x2 x3 x4 q3.2
            else
              f_X10_from_b77 (f_X10_from_b30  n) x1 x4 q3.1 q3.2
        else
          f_X10_from_b83 (f_X10_from_b30  n) x1 x2 x3 x4 M
        else none
        else none
set_option maxRecDepth 20000 in
set_option maxHeartbeats 4000000 in
theorem ok_X10_from_b30 {l : Launch} {g : Gam} {b : Nat}   : ∀ (n : Nat) (x1 : Int32) (x2 : Int32) (x3 : Int32) (x4 : Int32) (M : Mem) (z : Int32 × Mem), f_X10_from_b30  n x1 x2 x3 x4 M = some z → V l g (wM b) m_X10_from 30 [(0, .ref (b + 0)), (1, .int x1), (2, .int x2), (3, .int x3), (4, .int x4)] [] M (some (.int z.1)) z.2 := by
  intro n
  induction n with
  | zero =>
    intro x1 x2 x3 x4 M z  hf
    cases hf
  | succ n ih =>
    intro x1 x2 x3 x4 M z  hf
    rw [f_X10_from_b30] at hf
    refine V_iload (Y := m_X10_from) (pc := 30) 4 dX10_from_30 rfl ?_
    refine V_iconst (Y := m_X10_from) (pc := 32) (x := (4 : Int32)) dX10_from_32 (by decide +kernel) ?_
    refine V_icmp_ge (Y := m_X10_from) (pc := 33) (tgt := 89) dX10_from_33 (by decide +kernel) hf (fun hf => ?_) (fun hf => ?_)
    · exact V_sub [2] rfl (ok_X10_from_b89  x2 M z  hf)
    · refine V_iload (Y := m_X10_from) (pc := 36) 4 dX10_from_36 rfl ?_
      refine V_iload_n (Y := m_X10_from) (pc := 38) 1 dX10_from_38 rfl ?_
      refine V_icmp_eq (Y := m_X10_from) (pc := 39) (tgt := 83) dX10_from_39 (by decide +kernel) hf (fun hf => ?_) (fun hf => ?_)
      · exact V_sub [0, 1, 2, 3, 4] rfl (ok_X10_from_b83 (f_X10_from_b30  n) ih x1 x2 x3 x4 M z  hf)
      · refine V_aload_n (Y := m_X10_from) (pc := 42) 0 dX10_from_42 rfl ?_
        refine V_grL (Y := m_X10_from) (pc := 43) (x := 4) 4 kX10 sM_0 (by decide +kernel) rfl rfl tw_1074 dX10_from_43 ?_
        refine V_iload (Y := m_X10_from) (pc := 46) 4 dX10_from_46 rfl ?_
        obtain ⟨hi1, hf⟩ := g_if hf
        refine V_iald (Y := m_X10_from) (pc := 48) sM_4 hi1 dX10_from_48 ?_
        refine V_aload_n (Y := m_X10_from) (pc := 49) 0 dX10_from_49 rfl ?_
        refine V_grL (Y := m_X10_from) (pc := 50) (x := 4) 4 kX10 sM_0 (by decide +kernel) rfl rfl tw_1074 dX10_from_50 ?_
        refine V_iload_n (Y := m_X10_from) (pc := 53) 1 dX10_from_53 rfl ?_
        obtain ⟨hi2, hf⟩ := g_if hf
        refine V_iald (Y := m_X10_from) (pc := 54) sM_4 hi2 dX10_from_54 ?_
        refine V_icmp_ne (Y := m_X10_from) (pc := 55) (tgt := 83) dX10_from_55 (by decide +kernel) hf (fun hf => ?_) (fun hf => ?_)
        · exact V_sub [0, 1, 2, 3, 4] rfl (ok_X10_from_b83 (f_X10_from_b30  n) ih x1 x2 x3 x4 M z  hf)
        · refine V_aload_n (Y := m_X10_from) (pc := 58) 0 dX10_from_58 rfl ?_
          refine V_iload (Y := m_X10_from) (pc := 59) 4 dX10_from_59 rfl ?_
          refine V_iload_n (Y := m_X10_from) (pc := 61) 1 dX10_from_61 rfl ?_
          obtain ⟨q3, hq3, hf⟩ := g_bind hf
          refine V_cVi (Y := m_X10_from) (pc := 62) (As := [.int x4, .int x1]) yf_X10_changed kX10 sM_0 (by decide +kernel) (ok_X10_changed x4 x1 M _  hq3) tw_1550 tw_59 tw_1548 rfl rfl (Nat.le_of_ble_eq_true rfl) dX10_from_62 ?_
          refine V_istore (Y := m_X10_from) (pc := 65) [(5, .int q3.1), (0, .ref (b + 0)), (1, .int x1), (2, .int x2), (3, .int x3), (4, .int x4)] dX10_from_65 (by decide +kernel) rfl ?_
          refine V_iload_n (Y := m_X10_from) (pc := 67) 3 dX10_from_67 rfl ?_
          refine V_if_lt (Y := m_X10_from) (pc := 68) (tgt := 77) dX10_from_68 (by decide +kernel) hf (fun hf => ?_) (fun hf => ?_)
          · exact V_sub [1, 2, 5, 0] rfl (ok_X10_from_b77 (f_X10_from_b30  n) ih x1 x4 q3.1 q3.2 z  hf)
          · refine V_iload (Y := m_X10_from) (pc := 71) 0 dX10_from_71 rfl ?_
            refine V_iload_n (Y := m_X10_from) (pc := 73) 4 dX10_from_73 rfl ?_
            refine V_icmp_ge (Y := m_X10_from) (pc := 74) (tgt := 83) dX10_from_74 (by decide +kernel) hf (fun hf => ?_) (fun hf => ?_)
            · exact V_sub [1, 2, 3, 4, 5] rfl (ok_X10_from_b83 (f_X10_from_b30  n) ih x1 x2 x3 x4 q3.2 z  hf)
            · exact V_sub [1, 2, 5, 0] rfl (ok_X10_from_b77 (f_X10_from_b30  n) ih x1 x4 q3.1 q3.2 z  hf)
def f_X10_from_b0  (x1 : Int32) (M : Mem) : Option (Int32 × Mem) :=
  (f_X10_isSheet x1 M).bind fun q1 =>
  if q1.1 = 0 then
    some ((-1000000001 : Int32), q1.2)
  else
    if ixb x1 4 = true then
    if 0 ≤ (q1.2 4 (ix x1)) then
      f_X10_from_b30  FU x1 (-1 : Int32) (0 : Int32) (0 : Int32) q1.2
    else
      some ((-1000000011 : Int32), q1.2)
    else none
set_option maxRecDepth 20000 in
set_option maxHeartbeats 4000000 in
theorem ok_X10_from_b0 {l : Launch} {g : Gam} {b : Nat}   (x1 : Int32) (M : Mem) (z : Int32 × Mem)  (hf : f_X10_from_b0 x1 M = some z) : V l g (wM b) m_X10_from 0 [(0, .ref (b + 0)), (1, .int x1)] [] M (some (.int z.1)) z.2 := by
  unfold f_X10_from_b0 at hf
  refine V_iload_n (Y := m_X10_from) (pc := 0) 1 dX10_from_0 rfl ?_
  obtain ⟨q1, hq1, hf⟩ := g_bind hf
  refine V_cSi (Y := m_X10_from) (pc := 1) (As := [.int x1]) yf_X10_isSheet (by decide +kernel) (ok_X10_isSheet x1 M _  hq1) tw_1537 tw_1536 rfl rfl (Nat.le_of_ble_eq_true rfl) dX10_from_1 ?_
  refine V_if_ne (Y := m_X10_from) (pc := 4) (tgt := 10) dX10_from_4 (by decide +kernel) hf (fun hf => ?_) (fun hf => ?_)
  · refine V_aload_n (Y := m_X10_from) (pc := 10) 0 dX10_from_10 rfl ?_
    refine V_grL (Y := m_X10_from) (pc := 11) (x := 4) 4 kX10 sM_0 (by decide +kernel) rfl rfl tw_1074 dX10_from_11 ?_
    refine V_iload_n (Y := m_X10_from) (pc := 14) 1 dX10_from_14 rfl ?_
    obtain ⟨hi2, hf⟩ := g_if hf
    refine V_iald (Y := m_X10_from) (pc := 15) sM_4 hi2 dX10_from_15 ?_
    refine V_if_ge (Y := m_X10_from) (pc := 16) (tgt := 23) dX10_from_16 (by decide +kernel) hf (fun hf => ?_) (fun hf => ?_)
    · refine V_iconst (Y := m_X10_from) (pc := 23) (x := (-1 : Int32)) dX10_from_23 (by decide +kernel) ?_
      refine V_istore_n (Y := m_X10_from) (pc := 24) [(2, .int (-1 : Int32)), (0, .ref (b + 0)), (1, .int x1)] dX10_from_24 (by decide +kernel) rfl ?_
      refine V_iconst (Y := m_X10_from) (pc := 25) (x := (0 : Int32)) dX10_from_25 (by decide +kernel) ?_
      refine V_istore_n (Y := m_X10_from) (pc := 26) [(3, .int (0 : Int32)), (2, .int (-1 : Int32)), (0, .ref (b + 0)), (1, .int x1)] dX10_from_26 (by decide +kernel) rfl ?_
      refine V_iconst (Y := m_X10_from) (pc := 27) (x := (0 : Int32)) dX10_from_27 (by decide +kernel) ?_
      refine V_istore (Y := m_X10_from) (pc := 28) [(4, .int (0 : Int32)), (3, .int (0 : Int32)), (2, .int (-1 : Int32)), (0, .ref (b + 0)), (1, .int x1)] dX10_from_28 (by decide +kernel) rfl ?_
      exact V_sub [3, 4, 2, 1, 0] rfl (ok_X10_from_b30  FU x1 (-1 : Int32) (0 : Int32) (0 : Int32) q1.2 z  hf)
    · refine V_ldcw (Y := m_X10_from) (pc := 19) (x := (-1000000011 : Int32)) dX10_from_19 tw_1539 ?_
      obtain rfl := Option.some.inj hf
      exact V_iret (Y := m_X10_from) rfl dX10_from_22
  · refine V_ldc (Y := m_X10_from) (pc := 7) (x := (-1000000001 : Int32)) dX10_from_7 tw_1224 ?_
    obtain rfl := Option.some.inj hf
    exact V_iret (Y := m_X10_from) rfl dX10_from_9
def f_X10_from (x1 : Int32) (M : Mem) : Option (Int32 × Mem) := f_X10_from_b0 x1 M
set_option maxRecDepth 20000 in
set_option maxHeartbeats 4000000 in
theorem ok_X10_from {l : Launch} {g : Gam} {b : Nat} : ∀ (x1 : Int32) (M : Mem) (z : Int32 × Mem), f_X10_from x1 M = some z → Cn l g (wM b) m_X10_from [.ref (b + 0), .int x1] M (some (.int z.1)) z.2 := fun x1 M z  hf => Cn_of (by decide +kernel) (Nat.le_of_ble_eq_true rfl) (V_sub [0, 1] rfl (ok_X10_from_b0 x1 M z  hf))

abbrev m_X10_court : Mth := (yX10_court, cX10_court, 7, some .int, 8)
theorem yf_X10_court : YF m_X10_court 4 := ⟨tw_1559, tw_75, by decide +kernel, by decide +kernel⟩
def f_X10_court_b95  (x3 : Int32) (x4 : Int32) (x5 : Int32) (x6 : Int32) (M : Mem) : Option (Int32 × Mem) :=
  if x4 < x5 then
    some ((0 : Int32), M)
  else
    if x6 < x3 then
      some ((0 : Int32), M)
    else
      some ((1 : Int32), M)
set_option maxRecDepth 20000 in
set_option maxHeartbeats 4000000 in
theorem ok_X10_court_b95 {l : Launch} {g : Gam} {b : Nat}   (x3 : Int32) (x4 : Int32) (x5 : Int32) (x6 : Int32) (M : Mem) (z : Int32 × Mem)  (hf : f_X10_court_b95 x3 x4 x5 x6 M = some z) : V l g (wM b) m_X10_court 95 [(3, .int x3), (4, .int x4), (5, .int x5), (6, .int x6)] [] M (some (.int z.1)) z.2 := by
  unfold f_X10_court_b95 at hf
  refine V_iload (Y := m_X10_court) (pc := 95) 2 dX10_court_95 rfl ?_
  refine V_iload (Y := m_X10_court) (pc := 97) 1 dX10_court_97 rfl ?_
  refine V_icmp_gt (Y := m_X10_court) (pc := 99) (tgt := 112) dX10_court_99 (by decide +kernel) hf (fun hf => ?_) (fun hf => ?_)
  · refine V_iconst (Y := m_X10_court) (pc := 112) (x := (0 : Int32)) dX10_court_112 (by decide +kernel) ?_
    obtain rfl := Option.some.inj hf
    exact V_iret (Y := m_X10_court) rfl dX10_court_113
  · refine V_iload_n (Y := m_X10_court) (pc := 102) 0 dX10_court_102 rfl ?_
    refine V_iload (Y := m_X10_court) (pc := 103) 3 dX10_court_103 rfl ?_
    refine V_icmp_gt (Y := m_X10_court) (pc := 105) (tgt := 112) dX10_court_105 (by decide +kernel) hf (fun hf => ?_) (fun hf => ?_)
    · refine V_iconst (Y := m_X10_court) (pc := 112) (x := (0 : Int32)) dX10_court_112 (by decide +kernel) ?_
      obtain rfl := Option.some.inj hf
      exact V_iret (Y := m_X10_court) rfl dX10_court_113
    · refine V_iconst (Y := m_X10_court) (pc := 108) (x := (1 : Int32)) dX10_court_108 (by decide +kernel) ?_
      refine V_goto (Y := m_X10_court) (pc := 109) (tgt := 113) dX10_court_109 (by decide +kernel) ?_
      obtain rfl := Option.some.inj hf
      exact V_iret (Y := m_X10_court) rfl dX10_court_113
def f_X10_court_b0  (x1 : Int32) (x2 : Int32) (x3 : Int32) (x4 : Int32) (M : Mem) : Option (Int32 × Mem) :=
  (f_X10_isCape x1 M).bind fun q1 =>
  if q1.1 = 0 then
    some ((-1000000001 : Int32), q1.2)
  else
    (f_X10_isIn x2.toInt64 (-99 : Int64) (99 : Int64) q1.2).bind fun q2 =>
    if q2.1 = 0 then
      some ((-1000000001 : Int32), q2.2)
    else
      (f_X10_isIn x3.toInt64 (0 : Int64) (1999 : Int64) q2.2).bind fun q3 =>
      if q3.1 = 0 then
        some ((-1000000001 : Int32), q3.2)
      else
        (f_X10_isIn x4.toInt64 x3.toInt64 (1999 : Int64) q3.2).bind fun q4 =>
        if q4.1 = 0 then
          some ((-1000000001 : Int32), q4.2)
        else
          (f_X10_holds x1 q4.2).bind fun q5 =>
          if q5.1 = 0 then
            some ((-1000000002 : Int32), q5.2)
          else
            if ((q5.2 0 27) + x2) < x3 then
              f_X10_court_b95  x3 x4 ((q5.2 0 27) + x2) ((q5.2 0 28) + x2) q5.2
            else
              if x4 < ((q5.2 0 28) + x2) then
                f_X10_court_b95  x3 x4 ((q5.2 0 27) + x2) ((q5.2 0 28) + x2) q5.2
              else
                some ((2 : Int32), q5.2)
set_option maxRecDepth 20000 in
set_option maxHeartbeats 4000000 in
theorem ok_X10_court_b0 {l : Launch} {g : Gam} {b : Nat}   (x1 : Int32) (x2 : Int32) (x3 : Int32) (x4 : Int32) (M : Mem) (z : Int32 × Mem)  (hf : f_X10_court_b0 x1 x2 x3 x4 M = some z) : V l g (wM b) m_X10_court 0 [(0, .ref (b + 0)), (1, .int x1), (2, .int x2), (3, .int x3), (4, .int x4)] [] M (some (.int z.1)) z.2 := by
  unfold f_X10_court_b0 at hf
  refine V_iload_n (Y := m_X10_court) (pc := 0) 1 dX10_court_0 rfl ?_
  obtain ⟨q1, hq1, hf⟩ := g_bind hf
  refine V_cSi (Y := m_X10_court) (pc := 1) (As := [.int x1]) yf_X10_isCape (by decide +kernel) (ok_X10_isCape x1 M _  hq1) tw_1418 tw_1417 rfl rfl (Nat.le_of_ble_eq_true rfl) dX10_court_1 ?_
  refine V_if_eq (Y := m_X10_court) (pc := 4) (tgt := 47) dX10_court_4 (by decide +kernel) hf (fun hf => ?_) (fun hf => ?_)
  · refine V_ldc (Y := m_X10_court) (pc := 47) (x := (-1000000001 : Int32)) dX10_court_47 tw_1224 ?_
    obtain rfl := Option.some.inj hf
    exact V_iret (Y := m_X10_court) rfl dX10_court_49
  · refine V_iload_n (Y := m_X10_court) (pc := 7) 2 dX10_court_7 rfl ?_
    refine V_i2l (Y := m_X10_court) (pc := 8) dX10_court_8 ?_
    refine V_ldc2 (Y := m_X10_court) (pc := 9) (x := (-99 : Int64)) dX10_court_9 tw_1222 ?_
    refine V_ldc2 (Y := m_X10_court) (pc := 12) (x := (99 : Int64)) dX10_court_12 tw_1223 ?_
    obtain ⟨q2, hq2, hf⟩ := g_bind hf
    refine V_cSi (Y := m_X10_court) (pc := 15) (As := [.long x2.toInt64, .long (-99 : Int64), .long (99 : Int64)]) yf_X10_isIn (by decide +kernel) (ok_X10_isIn x2.toInt64 (-99 : Int64) (99 : Int64) q1.2 _  hq2) tw_1218 tw_1217 rfl rfl (Nat.le_of_ble_eq_true rfl) dX10_court_15 ?_
    refine V_if_eq (Y := m_X10_court) (pc := 18) (tgt := 47) dX10_court_18 (by decide +kernel) hf (fun hf => ?_) (fun hf => ?_)
    · refine V_ldc (Y := m_X10_court) (pc := 47) (x := (-1000000001 : Int32)) dX10_court_47 tw_1224 ?_
      obtain rfl := Option.some.inj hf
      exact V_iret (Y := m_X10_court) rfl dX10_court_49
    · refine V_iload_n (Y := m_X10_court) (pc := 21) 3 dX10_court_21 rfl ?_
      refine V_i2l (Y := m_X10_court) (pc := 22) dX10_court_22 ?_
      refine V_lconst (Y := m_X10_court) (pc := 23) (x := (0 : Int64)) dX10_court_23 (by decide +kernel) ?_
      refine V_ldc2 (Y := m_X10_court) (pc := 24) (x := (1999 : Int64)) dX10_court_24 tw_1560 ?_
      obtain ⟨q3, hq3, hf⟩ := g_bind hf
      refine V_cSi (Y := m_X10_court) (pc := 27) (As := [.long x3.toInt64, .long (0 : Int64), .long (1999 : Int64)]) yf_X10_isIn (by decide +kernel) (ok_X10_isIn x3.toInt64 (0 : Int64) (1999 : Int64) q2.2 _  hq3) tw_1218 tw_1217 rfl rfl (Nat.le_of_ble_eq_true rfl) dX10_court_27 ?_
      refine V_if_eq (Y := m_X10_court) (pc := 30) (tgt := 47) dX10_court_30 (by decide +kernel) hf (fun hf => ?_) (fun hf => ?_)
      · refine V_ldc (Y := m_X10_court) (pc := 47) (x := (-1000000001 : Int32)) dX10_court_47 tw_1224 ?_
        obtain rfl := Option.some.inj hf
        exact V_iret (Y := m_X10_court) rfl dX10_court_49
      · refine V_iload (Y := m_X10_court) (pc := 33) 4 dX10_court_33 rfl ?_
        refine V_i2l (Y := m_X10_court) (pc := 35) dX10_court_35 ?_
        refine V_iload_n (Y := m_X10_court) (pc := 36) 3 dX10_court_36 rfl ?_
        refine V_i2l (Y := m_X10_court) (pc := 37) dX10_court_37 ?_
        refine V_ldc2 (Y := m_X10_court) (pc := 38) (x := (1999 : Int64)) dX10_court_38 tw_1560 ?_
        obtain ⟨q4, hq4, hf⟩ := g_bind hf
        refine V_cSi (Y := m_X10_court) (pc := 41) (As := [.long x4.toInt64, .long x3.toInt64, .long (1999 : Int64)]) yf_X10_isIn (by decide +kernel) (ok_X10_isIn x4.toInt64 x3.toInt64 (1999 : Int64) q3.2 _  hq4) tw_1218 tw_1217 rfl rfl (Nat.le_of_ble_eq_true rfl) dX10_court_41 ?_
        refine V_if_ne (Y := m_X10_court) (pc := 44) (tgt := 50) dX10_court_44 (by decide +kernel) hf (fun hf => ?_) (fun hf => ?_)
        · refine V_aload_n (Y := m_X10_court) (pc := 50) 0 dX10_court_50 rfl ?_
          refine V_iload_n (Y := m_X10_court) (pc := 51) 1 dX10_court_51 rfl ?_
          obtain ⟨q5, hq5, hf⟩ := g_bind hf
          refine V_cVi (Y := m_X10_court) (pc := 52) (As := [.int x1]) yf_X10_holds kX10 sM_0 (by decide +kernel) (ok_X10_holds x1 q4.2 _  hq5) tw_1432 tw_48 tw_1430 rfl rfl (Nat.le_of_ble_eq_true rfl) dX10_court_52 ?_
          refine V_if_ne (Y := m_X10_court) (pc := 55) (tgt := 62) dX10_court_55 (by decide +kernel) hf (fun hf => ?_) (fun hf => ?_)
          · refine V_aload_n (Y := m_X10_court) (pc := 62) 0 dX10_court_62 rfl ?_
            refine V_gi (Y := m_X10_court) (pc := 63) 27 kX10 sM_0 (by decide +kernel) rfl tw_1097 dX10_court_63 ?_
            refine V_iload_n (Y := m_X10_court) (pc := 66) 2 dX10_court_66 rfl ?_
            refine V_iadd (Y := m_X10_court) (pc := 67) dX10_court_67 ?_
            refine V_istore (Y := m_X10_court) (pc := 68) [(5, .int ((q5.2 0 27) + x2)), (0, .ref (b + 0)), (1, .int x1), (2, .int x2), (3, .int x3), (4, .int x4)] dX10_court_68 (by decide +kernel) rfl ?_
            refine V_aload_n (Y := m_X10_court) (pc := 70) 1 dX10_court_70 rfl ?_
            refine V_gi (Y := m_X10_court) (pc := 71) 28 kX10 sM_0 (by decide +kernel) rfl tw_1098 dX10_court_71 ?_
            refine V_iload_n (Y := m_X10_court) (pc := 74) 3 dX10_court_74 rfl ?_
            refine V_iadd (Y := m_X10_court) (pc := 75) dX10_court_75 ?_
            refine V_istore (Y := m_X10_court) (pc := 76) [(6, .int ((q5.2 0 28) + x2)), (5, .int ((q5.2 0 27) + x2)), (0, .ref (b + 0)), (1, .int x1), (2, .int x2), (3, .int x3), (4, .int x4)] dX10_court_76 (by decide +kernel) rfl ?_
            refine V_iload_n (Y := m_X10_court) (pc := 78) 5 dX10_court_78 rfl ?_
            refine V_iload (Y := m_X10_court) (pc := 79) 1 dX10_court_79 rfl ?_
            refine V_icmp_gt (Y := m_X10_court) (pc := 81) (tgt := 95) dX10_court_81 (by decide +kernel) hf (fun hf => ?_) (fun hf => ?_)
            · exact V_sub [5, 6, 1, 0] rfl (ok_X10_court_b95  x3 x4 ((q5.2 0 27) + x2) ((q5.2 0 28) + x2) q5.2 z  hf)
            · refine V_iload (Y := m_X10_court) (pc := 84) 0 dX10_court_84 rfl ?_
              refine V_iload (Y := m_X10_court) (pc := 86) 6 dX10_court_86 rfl ?_
              refine V_icmp_gt (Y := m_X10_court) (pc := 88) (tgt := 95) dX10_court_88 (by decide +kernel) hf (fun hf => ?_) (fun hf => ?_)
              · exact V_sub [5, 6, 1, 0] rfl (ok_X10_court_b95  x3 x4 ((q5.2 0 27) + x2) ((q5.2 0 28) + x2) q5.2 z  hf)
              · refine V_iconst (Y := m_X10_court) (pc := 91) (x := (2 : Int32)) dX10_court_91 (by decide +kernel) ?_
                refine V_goto (Y := m_X10_court) (pc := 92) (tgt := 113) dX10_court_92 (by decide +kernel) ?_
                obtain rfl := Option.some.inj hf
                exact V_iret (Y := m_X10_court) rfl dX10_court_113
          · refine V_ldcw (Y := m_X10_court) (pc := 58) (x := (-1000000002 : Int32)) dX10_court_58 tw_1450 ?_
            obtain rfl := Option.some.inj hf
            exact V_iret (Y := m_X10_court) rfl dX10_court_61
        · refine V_ldc (Y := m_X10_court) (pc := 47) (x := (-1000000001 : Int32)) dX10_court_47 tw_1224 ?_
          obtain rfl := Option.some.inj hf
          exact V_iret (Y := m_X10_court) rfl dX10_court_49
def f_X10_court (x1 : Int32) (x2 : Int32) (x3 : Int32) (x4 : Int32) (M : Mem) : Option (Int32 × Mem) := f_X10_court_b0 x1 x2 x3 x4 M
set_option maxRecDepth 20000 in
set_option maxHeartbeats 4000000 in
theorem ok_X10_court {l : Launch} {g : Gam} {b : Nat} : ∀ (x1 : Int32) (x2 : Int32) (x3 : Int32) (x4 : Int32) (M : Mem) (z : Int32 × Mem), f_X10_court x1 x2 x3 x4 M = some z → Cn l g (wM b) m_X10_court [.ref (b + 0), .int x1, .int x2, .int x3, .int x4] M (some (.int z.1)) z.2 := fun x1 x2 x3 x4 M z  hf => Cn_of (by decide +kernel) (Nat.le_of_ble_eq_true rfl) (V_sub [0, 1, 2, 3, 4] rfl (ok_X10_court_b0 x1 x2 x3 x4 M z  hf))

abbrev m_X10_survey : Mth := (yX10_survey, cX10_survey, 3, some .int, 3)
theorem yf_X10_survey : YF m_X10_survey 2 := ⟨tw_1564, tw_75, by decide +kernel, by decide +kernel⟩
def f_X10_survey_b0  (x1 : Int32) (x2 : Int32) (M : Mem) : Option (Int32 × Mem) :=
  (f_X10_isCape x1 M).bind fun q1 =>
  if q1.1 = 0 then
    some ((-1000000001 : Int32), q1.2)
  else
    (f_X10_isIn x2.toInt64 (0 : Int64) (999 : Int64) q1.2).bind fun q2 =>
    if q2.1 = 0 then
      some ((-1000000001 : Int32), q2.2)
    else
      (f_X10_becomes ((20 : Int32) + x1) x2 q2.2).bind fun q3 =>
      (f_X10_orNone q3.1 q3.2).bind fun q4 =>
      some (q4.1, q4.2)
set_option maxRecDepth 20000 in
set_option maxHeartbeats 4000000 in
theorem ok_X10_survey_b0 {l : Launch} {g : Gam} {b : Nat}   (x1 : Int32) (x2 : Int32) (M : Mem) (z : Int32 × Mem)  (hf : f_X10_survey_b0 x1 x2 M = some z) : V l g (wM b) m_X10_survey 0 [(0, .ref (b + 0)), (1, .int x1), (2, .int x2)] [] M (some (.int z.1)) z.2 := by
  unfold f_X10_survey_b0 at hf
  refine V_iload_n (Y := m_X10_survey) (pc := 0) 1 dX10_survey_0 rfl ?_
  obtain ⟨q1, hq1, hf⟩ := g_bind hf
  refine V_cSi (Y := m_X10_survey) (pc := 1) (As := [.int x1]) yf_X10_isCape (by decide +kernel) (ok_X10_isCape x1 M _  hq1) tw_1418 tw_1417 rfl rfl (Nat.le_of_ble_eq_true rfl) dX10_survey_1 ?_
  refine V_if_eq (Y := m_X10_survey) (pc := 4) (tgt := 34) dX10_survey_4 (by decide +kernel) hf (fun hf => ?_) (fun hf => ?_)
  · refine V_ldc (Y := m_X10_survey) (pc := 34) (x := (-1000000001 : Int32)) dX10_survey_34 tw_1224 ?_
    obtain rfl := Option.some.inj hf
    exact V_iret (Y := m_X10_survey) rfl dX10_survey_36
  · refine V_iload_n (Y := m_X10_survey) (pc := 7) 2 dX10_survey_7 rfl ?_
    refine V_i2l (Y := m_X10_survey) (pc := 8) dX10_survey_8 ?_
    refine V_lconst (Y := m_X10_survey) (pc := 9) (x := (0 : Int64)) dX10_survey_9 (by decide +kernel) ?_
    refine V_ldc2 (Y := m_X10_survey) (pc := 10) (x := (999 : Int64)) dX10_survey_10 tw_1221 ?_
    obtain ⟨q2, hq2, hf⟩ := g_bind hf
    refine V_cSi (Y := m_X10_survey) (pc := 13) (As := [.long x2.toInt64, .long (0 : Int64), .long (999 : Int64)]) yf_X10_isIn (by decide +kernel) (ok_X10_isIn x2.toInt64 (0 : Int64) (999 : Int64) q1.2 _  hq2) tw_1218 tw_1217 rfl rfl (Nat.le_of_ble_eq_true rfl) dX10_survey_13 ?_
    refine V_if_eq (Y := m_X10_survey) (pc := 16) (tgt := 34) dX10_survey_16 (by decide +kernel) hf (fun hf => ?_) (fun hf => ?_)
    · refine V_ldc (Y := m_X10_survey) (pc := 34) (x := (-1000000001 : Int32)) dX10_survey_34 tw_1224 ?_
      obtain rfl := Option.some.inj hf
      exact V_iret (Y := m_X10_survey) rfl dX10_survey_36
    · refine V_aload_n (Y := m_X10_survey) (pc := 19) 0 dX10_survey_19 rfl ?_
      refine V_bipush (Y := m_X10_survey) (pc := 20) (x := (20 : Int32)) dX10_survey_20 (by decide +kernel) ?_
      refine V_iload_n (Y := m_X10_survey) (pc := 22) 1 dX10_survey_22 rfl ?_
      refine V_iadd (Y := m_X10_survey) (pc := 23) dX10_survey_23 ?_
      refine V_iload_n (Y := m_X10_survey) (pc := 24) 2 dX10_survey_24 rfl ?_
      obtain ⟨q3, hq3, hf⟩ := g_bind hf
      refine V_cVi (Y := m_X10_survey) (pc := 25) (As := [.int ((20 : Int32) + x1), .int x2]) yf_X10_becomes kX10 sM_0 (by decide +kernel) (ok_X10_becomes ((20 : Int32) + x1) x2 q2.2 _  hq3) tw_1311 tw_30 tw_1309 rfl rfl (Nat.le_of_ble_eq_true rfl) dX10_survey_25 ?_
      obtain ⟨q4, hq4, hf⟩ := g_bind hf
      refine V_cSi (Y := m_X10_survey) (pc := 28) (As := [.int q3.1]) yf_X10_orNone (by decide +kernel) (ok_X10_orNone q3.1 q3.2 _  hq4) tw_1247 tw_1246 rfl rfl (Nat.le_of_ble_eq_true rfl) dX10_survey_28 ?_
      refine V_goto (Y := m_X10_survey) (pc := 31) (tgt := 36) dX10_survey_31 (by decide +kernel) ?_
      obtain rfl := Option.some.inj hf
      exact V_iret (Y := m_X10_survey) rfl dX10_survey_36
def f_X10_survey (x1 : Int32) (x2 : Int32) (M : Mem) : Option (Int32 × Mem) := f_X10_survey_b0 x1 x2 M
set_option maxRecDepth 20000 in
set_option maxHeartbeats 4000000 in
theorem ok_X10_survey {l : Launch} {g : Gam} {b : Nat} : ∀ (x1 : Int32) (x2 : Int32) (M : Mem) (z : Int32 × Mem), f_X10_survey x1 x2 M = some z → Cn l g (wM b) m_X10_survey [.ref (b + 0), .int x1, .int x2] M (some (.int z.1)) z.2 := fun x1 x2 M z  hf => Cn_of (by decide +kernel) (Nat.le_of_ble_eq_true rfl) (V_sub [0, 1, 2] rfl (ok_X10_survey_b0 x1 x2 M z  hf))

abbrev m_X10_held : Mth := (yX10_held, cX10_held, 3, some .int, 8)
theorem yf_X10_held : YF m_X10_held 0 := ⟨tw_1568, tw_75, by decide +kernel, by decide +kernel⟩
def f_X10_held_b64 (k4 : Int32 → Int32 → Mem → Option (Int32 × Mem)) (x2 : Int32) (s0 : Int32) (s1 : Int32) (M : Mem) : Option (Int32 × Mem) :=
  k4 (s1 ||| s0) (x2 + (1 : Int32)) M
set_option maxRecDepth 20000 in
set_option maxHeartbeats 4000000 in
theorem ok_X10_held_b64 {l : Launch} {g : Gam} {b : Nat} (k4 : Int32 → Int32 → Mem → Option (Int32 × Mem)) (hk4 : ∀ (x1 : Int32) (x2 : Int32) (M : Mem) (z : Int32 × Mem), k4 x1 x2 M = some z → V l g (wM b) m_X10_held 4 [(0, .ref (b + 0)), (1, .int x1), (2, .int x2)] [] M (some (.int z.1)) z.2) (x2 : Int32) (s0 : Int32) (s1 : Int32) (M : Mem) (z : Int32 × Mem)  (hf : f_X10_held_b64 k4 x2 s0 s1 M = some z) : V l g (wM b) m_X10_held 64 [(0, .ref (b + 0)), (2, .int x2)] [.int s0, .int s1] M (some (.int z.1)) z.2 := by
  unfold f_X10_held_b64 at hf
  refine V_ior (Y := m_X10_held) (pc := 64) dX10_held_64 ?_
  refine V_istore_n (Y := m_X10_held) (pc := 65) [(1, .int (s1 ||| s0)), (0, .ref (b + 0)), (2, .int x2)] dX10_held_65 (by decide +kernel) rfl ?_
  refine V_iinc (Y := m_X10_held) (pc := 66) (y := (x2 + (1 : Int32))) 2 [(2, .int (x2 + (1 : Int32))), (1, .int (s1 ||| s0)), (0, .ref (b + 0))] dX10_held_66 rfl rfl (by decide +kernel) rfl ?_
  refine V_goto (Y := m_X10_held) (pc := 69) (tgt := 4) dX10_held_69 (by decide +kernel) ?_
  exact V_sub [2, 1, 0] rfl (hk4 (s1 ||| s0) (x2 + (1 : Int32)) M z  hf)
def f_X10_held_b63 (k4 : Int32 → Int32 → Mem → Option (Int32 × Mem)) (x2 : Int32) (s0 : Int32) (M : Mem) : Option (Int32 × Mem) :=
  f_X10_held_b64 k4 x2 (0 : Int32) s0 M
set_option maxRecDepth 20000 in
set_option maxHeartbeats 4000000 in
theorem ok_X10_held_b63 {l : Launch} {g : Gam} {b : Nat} (k4 : Int32 → Int32 → Mem → Option (Int32 × Mem)) (hk4 : ∀ (x1 : Int32) (x2 : Int32) (M : Mem) (z : Int32 × Mem), k4 x1 x2 M = some z → V l g (wM b) m_X10_held 4 [(0, .ref (b + 0)), (1, .int x1), (2, .int x2)] [] M (some (.int z.1)) z.2) (x2 : Int32) (s0 : Int32) (M : Mem) (z : Int32 × Mem)  (hf : f_X10_held_b63 k4 x2 s0 M = some z) : V l g (wM b) m_X10_held 63 [(0, .ref (b + 0)), (2, .int x2)] [.int s0] M (some (.int z.1)) z.2 := by
  unfold f_X10_held_b63 at hf
  refine V_iconst (Y := m_X10_held) (pc := 63) (x := (0 : Int32)) dX10_held_63 (by decide +kernel) ?_
  exact V_sub [0, 1] rfl (ok_X10_held_b64 k4 hk4 x2 (0 : Int32) s0 M z  hf)
def f_X10_held_b4  : Nat → Int32 → Int32 → Mem → Option (Int32 × Mem)
  | 0, _, _, _ => none
  | n + 1, x1, x2, M =>
    if (9 : Int32) ≤ x2 then
      some (x1, M)
    else
      (f_X10_holds x2 M).bind fun q1 =>
      if q1.1 = 0 then
        f_X10_held_b63 (f_X10_held_b4  n) x2 x1 q1.2
      else
        if ixb ((20 : Int32) + x2) 3300 = true then
        if (q1.2 1 (ix ((20 : Int32) + x2))) < 0 then
          f_X10_held_b63 (f_X10_held_b4  n) x2 x1 q1.2
        else
          if ixb ((20 : Int32) + x2) 3300 = true then
          (f_X10_isIn (q1.2 1 (ix ((20 : Int32) + x2))).toInt64 (q1.2 0 27).toInt64 (q1.2 0 28).toInt64 q1.2).bind fun q4 =>
          if q4.1 = 0 then
            f_X10_held_b63 (f_X10_held_b4  n) x2 x1 q4.2
          else
            f_X10_held_b64 (f_X10_held_b4  n) x2 ((1 : Int32) <<< (x2 &&& 31)) x1 q4.2
          else none
        else none
set_option maxRecDepth 20000 in
set_option maxHeartbeats 4000000 in
theorem ok_X10_held_b4 {l : Launch} {g : Gam} {b : Nat}   : ∀ (n : Nat) (x1 : Int32) (x2 : Int32) (M : Mem) (z : Int32 × Mem), f_X10_held_b4  n x1 x2 M = some z → V l g (wM b) m_X10_held 4 [(0, .ref (b + 0)), (1, .int x1), (2, .int x2)] [] M (some (.int z.1)) z.2 := by
  intro n
  induction n with
  | zero =>
    intro x1 x2 M z  hf
    cases hf
  | succ n ih =>
    intro x1 x2 M z  hf
    rw [f_X10_held_b4] at hf
    refine V_iload_n (Y := m_X10_held) (pc := 4) 2 dX10_held_4 rfl ?_
    refine V_bipush (Y := m_X10_held) (pc := 5) (x := (9 : Int32)) dX10_held_5 (by decide +kernel) ?_
    refine V_icmp_ge (Y := m_X10_held) (pc := 7) (tgt := 72) dX10_held_7 (by decide +kernel) hf (fun hf => ?_) (fun hf => ?_)
    · refine V_iload_n (Y := m_X10_held) (pc := 72) 1 dX10_held_72 rfl ?_
      obtain rfl := Option.some.inj hf
      exact V_iret (Y := m_X10_held) rfl dX10_held_73
    · refine V_iload_n (Y := m_X10_held) (pc := 10) 1 dX10_held_10 rfl ?_
      refine V_aload_n (Y := m_X10_held) (pc := 11) 0 dX10_held_11 rfl ?_
      refine V_iload_n (Y := m_X10_held) (pc := 12) 2 dX10_held_12 rfl ?_
      obtain ⟨q1, hq1, hf⟩ := g_bind hf
      refine V_cVi (Y := m_X10_held) (pc := 13) (As := [.int x2]) yf_X10_holds kX10 sM_0 (by decide +kernel) (ok_X10_holds x2 M _  hq1) tw_1432 tw_48 tw_1430 rfl rfl (Nat.le_of_ble_eq_true rfl) dX10_held_13 ?_
      refine V_if_eq (Y := m_X10_held) (pc := 16) (tgt := 63) dX10_held_16 (by decide +kernel) hf (fun hf => ?_) (fun hf => ?_)
      · exact V_sub [0, 2] rfl (ok_X10_held_b63 (f_X10_held_b4  n) ih x2 x1 q1.2 z  hf)
      · refine V_aload_n (Y := m_X10_held) (pc := 19) 0 dX10_held_19 rfl ?_
        refine V_grL (Y := m_X10_held) (pc := 20) (x := 1) 0 kX10 sM_0 (by decide +kernel) rfl rfl tw_1070 dX10_held_20 ?_
        refine V_bipush (Y := m_X10_held) (pc := 23) (x := (20 : Int32)) dX10_held_23 (by decide +kernel) ?_
        refine V_iload_n (Y := m_X10_held) (pc := 25) 2 dX10_held_25 rfl ?_
        refine V_iadd (Y := m_X10_held) (pc := 26) dX10_held_26 ?_
        obtain ⟨hi2, hf⟩ := g_if hf
        refine V_iald (Y := m_X10_held) (pc := 27) sM_1 hi2 dX10_held_27 ?_
        refine V_if_lt (Y := m_X10_held) (pc := 28) (tgt := 63) dX10_held_28 (by decide +kernel) hf (fun hf => ?_) (fun hf => ?_)
        · exact V_sub [0, 2] rfl (ok_X10_held_b63 (f_X10_held_b4  n) ih x2 x1 q1.2 z  hf)
        · refine V_aload_n (Y := m_X10_held) (pc := 31) 0 dX10_held_31 rfl ?_
          refine V_grL (Y := m_X10_held) (pc := 32) (x := 1) 0 kX10 sM_0 (by decide +kernel) rfl rfl tw_1070 dX10_held_32 ?_
          refine V_bipush (Y := m_X10_held) (pc := 35) (x := (20 : Int32)) dX10_held_35 (by decide +kernel) ?_
          refine V_iload_n (Y := m_X10_held) (pc := 37) 2 dX10_held_37 rfl ?_
          refine V_iadd (Y := m_X10_held) (pc := 38) dX10_held_38 ?_
          obtain ⟨hi3, hf⟩ := g_if hf
          refine V_iald (Y := m_X10_held) (pc := 39) sM_1 hi3 dX10_held_39 ?_
          refine V_i2l (Y := m_X10_held) (pc := 40) dX10_held_40 ?_
          refine V_aload_n (Y := m_X10_held) (pc := 41) 0 dX10_held_41 rfl ?_
          refine V_gi (Y := m_X10_held) (pc := 42) 27 kX10 sM_0 (by decide +kernel) rfl tw_1097 dX10_held_42 ?_
          refine V_i2l (Y := m_X10_held) (pc := 45) dX10_held_45 ?_
          refine V_aload_n (Y := m_X10_held) (pc := 46) 0 dX10_held_46 rfl ?_
          refine V_gi (Y := m_X10_held) (pc := 47) 28 kX10 sM_0 (by decide +kernel) rfl tw_1098 dX10_held_47 ?_
          refine V_i2l (Y := m_X10_held) (pc := 50) dX10_held_50 ?_
          obtain ⟨q4, hq4, hf⟩ := g_bind hf
          refine V_cSi (Y := m_X10_held) (pc := 51) (As := [.long (q1.2 1 (ix ((20 : Int32) + x2))).toInt64, .long (q1.2 0 27).toInt64, .long (q1.2 0 28).toInt64]) yf_X10_isIn (by decide +kernel) (ok_X10_isIn (q1.2 1 (ix ((20 : Int32) + x2))).toInt64 (q1.2 0 27).toInt64 (q1.2 0 28).toInt64 q1.2 _  hq4) tw_1218 tw_1217 rfl rfl (Nat.le_of_ble_eq_true rfl) dX10_held_51 ?_
          refine V_if_eq (Y := m_X10_held) (pc := 54) (tgt := 63) dX10_held_54 (by decide +kernel) hf (fun hf => ?_) (fun hf => ?_)
          · exact V_sub [0, 2] rfl (ok_X10_held_b63 (f_X10_held_b4  n) ih x2 x1 q4.2 z  hf)
          · refine V_iconst (Y := m_X10_held) (pc := 57) (x := (1 : Int32)) dX10_held_57 (by decide +kernel) ?_
            refine V_iload_n (Y := m_X10_held) (pc := 58) 2 dX10_held_58 rfl ?_
            refine V_ishl (Y := m_X10_held) (pc := 59) dX10_held_59 ?_
            refine V_goto (Y := m_X10_held) (pc := 60) (tgt := 64) dX10_held_60 (by decide +kernel) ?_
            exact V_sub [0, 2] rfl (ok_X10_held_b64 (f_X10_held_b4  n) ih x2 ((1 : Int32) <<< (x2 &&& 31)) x1 q4.2 z  hf)
def f_X10_held_b0   (M : Mem) : Option (Int32 × Mem) :=
  f_X10_held_b4  FU (0 : Int32) (0 : Int32) M
set_option maxRecDepth 20000 in
set_option maxHeartbeats 4000000 in
theorem ok_X10_held_b0 {l : Launch} {g : Gam} {b : Nat}    (M : Mem) (z : Int32 × Mem)  (hf : f_X10_held_b0  M = some z) : V l g (wM b) m_X10_held 0 [(0, .ref (b + 0))] [] M (some (.int z.1)) z.2 := by
  unfold f_X10_held_b0 at hf
  refine V_iconst (Y := m_X10_held) (pc := 0) (x := (0 : Int32)) dX10_held_0 (by decide +kernel) ?_
  refine V_istore_n (Y := m_X10_held) (pc := 1) [(1, .int (0 : Int32)), (0, .ref (b + 0))] dX10_held_1 (by decide +kernel) rfl ?_
  refine V_iconst (Y := m_X10_held) (pc := 2) (x := (0 : Int32)) dX10_held_2 (by decide +kernel) ?_
  refine V_istore_n (Y := m_X10_held) (pc := 3) [(2, .int (0 : Int32)), (1, .int (0 : Int32)), (0, .ref (b + 0))] dX10_held_3 (by decide +kernel) rfl ?_
  exact V_sub [2, 1, 0] rfl (ok_X10_held_b4  FU (0 : Int32) (0 : Int32) M z  hf)
def f_X10_held  (M : Mem) : Option (Int32 × Mem) := f_X10_held_b0  M
set_option maxRecDepth 20000 in
set_option maxHeartbeats 4000000 in
theorem ok_X10_held {l : Launch} {g : Gam} {b : Nat} : ∀  (M : Mem) (z : Int32 × Mem), f_X10_held  M = some z → Cn l g (wM b) m_X10_held [.ref (b + 0)] M (some (.int z.1)) z.2 := fun  M z  hf => Cn_of (by decide +kernel) (Nat.le_of_ble_eq_true rfl) (V_sub [0] rfl (ok_X10_held_b0  M z  hf))

abbrev m_X10_findMisses : Mth := (yX10_findMisses, cX10_findMisses, 4, none, 6)
theorem yf_X10_findMisses : YF m_X10_findMisses 1 := ⟨tw_1576, tw_75, by decide +kernel, by decide +kernel⟩
def f_X10_findMisses_b92 (k12 : Int32 → Int32 → Mem → Option (Int32 × Mem)) (x1 : Int32) (x2 : Int32) (M : Mem) : Option (Int32 × Mem) :=
  k12 x1 (x2 + (1 : Int32)) M
set_option maxRecDepth 20000 in
set_option maxHeartbeats 4000000 in
theorem ok_X10_findMisses_b92 {l : Launch} {g : Gam} {b : Nat} (k12 : Int32 → Int32 → Mem → Option (Int32 × Mem)) (hk12 : ∀ (x1 : Int32) (x2 : Int32) (M : Mem) (z : Int32 × Mem), k12 x1 x2 M = some z → V l g (wM b) m_X10_findMisses 12 [(0, .ref (b + 0)), (1, .int x1), (2, .int x2)] [] M none z.2) (x1 : Int32) (x2 : Int32) (M : Mem) (z : Int32 × Mem)  (hf : f_X10_findMisses_b92 k12 x1 x2 M = some z) : V l g (wM b) m_X10_findMisses 92 [(0, .ref (b + 0)), (1, .int x1), (2, .int x2)] [] M none z.2 := by
  unfold f_X10_findMisses_b92 at hf
  refine V_iinc (Y := m_X10_findMisses) (pc := 92) (y := (x2 + (1 : Int32))) 2 [(2, .int (x2 + (1 : Int32))), (0, .ref (b + 0)), (1, .int x1)] dX10_findMisses_92 rfl rfl (by decide +kernel) rfl ?_
  refine V_goto (Y := m_X10_findMisses) (pc := 95) (tgt := 12) dX10_findMisses_95 (by decide +kernel) ?_
  exact V_sub [1, 2, 0] rfl (hk12 x1 (x2 + (1 : Int32)) M z  hf)
def f_X10_findMisses_b12  : Nat → Int32 → Int32 → Mem → Option (Int32 × Mem)
  | 0, _, _, _ => none
  | n + 1, x1, x2, M =>
    if (M 1 0) ≤ x2 then
      some (0, M)
    else
      (f_X10_field x2 (5 : Int32) M).bind fun q1 =>
      (f_X10_field x2 (1 : Int32) q1.2).bind fun q2 =>
      if q2.1 = x1 then
        if q1.1 < 0 then
          f_X10_findMisses_b92 (f_X10_findMisses_b12  n) x1 x2 q2.2
        else
          if ixb ((20 : Int32) + q1.1) 3300 = true then
          if (q2.2 1 (ix ((20 : Int32) + q1.1))) < 0 then
            f_X10_findMisses_b92 (f_X10_findMisses_b12  n) x1 x2 q2.2
          else
            (f_X10_says x2 q2.2).bind fun q4 =>
            if ixb ((20 : Int32) + q1.1) 3300 = true then
            (f_X10_size (q4.1 - (q4.2 1 (ix ((20 : Int32) + q1.1)))) q4.2).bind fun q6 =>
            f_X10_findMisses_b92 (f_X10_findMisses_b12  n) x1 x2 (mset (mset q6.2 0 42 ((q2.2 0 42) + q6.1)) 0 43 (((mset q6.2 0 42 ((q2.2 0 42) + q6.1)) 0 43) + (1 : Int32)))
            else none
          else none
      else
        f_X10_findMisses_b92 (f_X10_findMisses_b12  n) x1 x2 q2.2
set_option maxRecDepth 20000 in
set_option maxHeartbeats 4000000 in
theorem ok_X10_findMisses_b12 {l : Launch} {g : Gam} {b : Nat}   : ∀ (n : Nat) (x1 : Int32) (x2 : Int32) (M : Mem) (z : Int32 × Mem), f_X10_findMisses_b12  n x1 x2 M = some z → V l g (wM b) m_X10_findMisses 12 [(0, .ref (b + 0)), (1, .int x1), (2, .int x2)] [] M none z.2 := by
  intro n
  induction n with
  | zero =>
    intro x1 x2 M z  hf
    cases hf
  | succ n ih =>
    intro x1 x2 M z  hf
    rw [f_X10_findMisses_b12] at hf
    refine V_iload_n (Y := m_X10_findMisses) (pc := 12) 2 dX10_findMisses_12 rfl ?_
    refine V_aload_n (Y := m_X10_findMisses) (pc := 13) 0 dX10_findMisses_13 rfl ?_
    refine V_grL (Y := m_X10_findMisses) (pc := 14) (x := 1) 0 kX10 sM_0 (by decide +kernel) rfl rfl tw_1070 dX10_findMisses_14 ?_
    refine V_iconst (Y := m_X10_findMisses) (pc := 17) (x := (0 : Int32)) dX10_findMisses_17 (by decide +kernel) ?_
    refine V_ialdL (Y := m_X10_findMisses) (pc := 18) (j := 0) sM_1 (by decide +kernel) rfl dX10_findMisses_18 ?_
    refine V_icmp_ge (Y := m_X10_findMisses) (pc := 19) (tgt := 98) dX10_findMisses_19 (by decide +kernel) hf (fun hf => ?_) (fun hf => ?_)
    · obtain rfl := Option.some.inj hf
      exact V_vret (Y := m_X10_findMisses) rfl dX10_findMisses_98
    · refine V_aload_n (Y := m_X10_findMisses) (pc := 22) 0 dX10_findMisses_22 rfl ?_
      refine V_iload_n (Y := m_X10_findMisses) (pc := 23) 2 dX10_findMisses_23 rfl ?_
      refine V_iconst (Y := m_X10_findMisses) (pc := 24) (x := (5 : Int32)) dX10_findMisses_24 (by decide +kernel) ?_
      obtain ⟨q1, hq1, hf⟩ := g_bind hf
      refine V_cVi (Y := m_X10_findMisses) (pc := 25) (As := [.int x2, .int (5 : Int32)]) yf_X10_field kX10 sM_0 (by decide +kernel) (ok_X10_field x2 (5 : Int32) M _  hq1) tw_1244 tw_20 tw_1242 rfl rfl (Nat.le_of_ble_eq_true rfl) dX10_findMisses_25 ?_
      refine V_istore_n (Y := m_X10_findMisses) (pc := 28) [(3, .int q1.1), (0, .ref (b + 0)), (1, .int x1), (2, .int x2)] dX10_findMisses_28 (by decide +kernel) rfl ?_
      refine V_aload_n (Y := m_X10_findMisses) (pc := 29) 1 dX10_findMisses_29 rfl ?_
      refine V_iload_n (Y := m_X10_findMisses) (pc := 30) 3 dX10_findMisses_30 rfl ?_
      refine V_iconst (Y := m_X10_findMisses) (pc := 31) (x := (1 : Int32)) dX10_findMisses_31 (by decide +kernel) ?_
      obtain ⟨q2, hq2, hf⟩ := g_bind hf
      refine V_cVi (Y := m_X10_findMisses) (pc := 32) (As := [.int x2, .int (1 : Int32)]) yf_X10_field kX10 sM_0 (by decide +kernel) (ok_X10_field x2 (1 : Int32) q1.2 _  hq2) tw_1244 tw_20 tw_1242 rfl rfl (Nat.le_of_ble_eq_true rfl) dX10_findMisses_32 ?_
      refine V_iload_n (Y := m_X10_findMisses) (pc := 35) 2 dX10_findMisses_35 rfl ?_
      refine V_icmp_ne (Y := m_X10_findMisses) (pc := 36) (tgt := 92) dX10_findMisses_36 (by decide +kernel) hf (fun hf => ?_) (fun hf => ?_)
      · exact V_sub [1, 2, 3] rfl (ok_X10_findMisses_b92 (f_X10_findMisses_b12  n) ih x1 x2 q2.2 z  hf)
      · refine V_iload_n (Y := m_X10_findMisses) (pc := 39) 0 dX10_findMisses_39 rfl ?_
        refine V_if_lt (Y := m_X10_findMisses) (pc := 40) (tgt := 92) dX10_findMisses_40 (by decide +kernel) hf (fun hf => ?_) (fun hf => ?_)
        · exact V_sub [1, 2, 3] rfl (ok_X10_findMisses_b92 (f_X10_findMisses_b12  n) ih x1 x2 q2.2 z  hf)
        · refine V_aload_n (Y := m_X10_findMisses) (pc := 43) 1 dX10_findMisses_43 rfl ?_
          refine V_grL (Y := m_X10_findMisses) (pc := 44) (x := 1) 0 kX10 sM_0 (by decide +kernel) rfl rfl tw_1070 dX10_findMisses_44 ?_
          refine V_bipush (Y := m_X10_findMisses) (pc := 47) (x := (20 : Int32)) dX10_findMisses_47 (by decide +kernel) ?_
          refine V_iload_n (Y := m_X10_findMisses) (pc := 49) 0 dX10_findMisses_49 rfl ?_
          refine V_iadd (Y := m_X10_findMisses) (pc := 50) dX10_findMisses_50 ?_
          obtain ⟨hi3, hf⟩ := g_if hf
          refine V_iald (Y := m_X10_findMisses) (pc := 51) sM_1 hi3 dX10_findMisses_51 ?_
          refine V_if_lt (Y := m_X10_findMisses) (pc := 52) (tgt := 92) dX10_findMisses_52 (by decide +kernel) hf (fun hf => ?_) (fun hf => ?_)
          · exact V_sub [1, 2, 3] rfl (ok_X10_findMisses_b92 (f_X10_findMisses_b12  n) ih x1 x2 q2.2 z  hf)
          · refine V_aload_n (Y := m_X10_findMisses) (pc := 55) 1 dX10_findMisses_55 rfl ?_
            refine V_dup (Y := m_X10_findMisses) (pc := 56) dX10_findMisses_56 rfl ?_
            refine V_gi (Y := m_X10_findMisses) (pc := 57) 42 kX10 sM_0 (by decide +kernel) rfl tw_1112 dX10_findMisses_57 ?_
            refine V_aload_n (Y := m_X10_findMisses) (pc := 60) 1 dX10_findMisses_60 rfl ?_
            refine V_iload_n (Y := m_X10_findMisses) (pc := 61) 3 dX10_findMisses_61 rfl ?_
            obtain ⟨q4, hq4, hf⟩ := g_bind hf
            refine V_cVi (Y := m_X10_findMisses) (pc := 62) (As := [.int x2]) yf_X10_says kX10 sM_0 (by decide +kernel) (ok_X10_says x2 q2.2 _  hq4) tw_1252 tw_21 tw_1250 rfl rfl (Nat.le_of_ble_eq_true rfl) dX10_findMisses_62 ?_
            refine V_aload_n (Y := m_X10_findMisses) (pc := 65) 1 dX10_findMisses_65 rfl ?_
            refine V_grL (Y := m_X10_findMisses) (pc := 66) (x := 1) 0 kX10 sM_0 (by decide +kernel) rfl rfl tw_1070 dX10_findMisses_66 ?_
            refine V_bipush (Y := m_X10_findMisses) (pc := 69) (x := (20 : Int32)) dX10_findMisses_69 (by decide +kernel) ?_
            refine V_iload_n (Y := m_X10_findMisses) (pc := 71) 0 dX10_findMisses_71 rfl ?_
            refine V_iadd (Y := m_X10_findMisses) (pc := 72) dX10_findMisses_72 ?_
            obtain ⟨hi5, hf⟩ := g_if hf
            refine V_iald (Y := m_X10_findMisses) (pc := 73) sM_1 hi5 dX10_findMisses_73 ?_
            refine V_isub (Y := m_X10_findMisses) (pc := 74) dX10_findMisses_74 ?_
            obtain ⟨q6, hq6, hf⟩ := g_bind hf
            refine V_cSi (Y := m_X10_findMisses) (pc := 75) (As := [.int (q4.1 - (q4.2 1 (ix ((20 : Int32) + q1.1))))]) yf_X10_size (by decide +kernel) (ok_X10_size (q4.1 - (q4.2 1 (ix ((20 : Int32) + q1.1)))) q4.2 _  hq6) tw_1476 tw_1475 rfl rfl (Nat.le_of_ble_eq_true rfl) dX10_findMisses_75 ?_
            refine V_iadd (Y := m_X10_findMisses) (pc := 78) dX10_findMisses_78 ?_
            refine V_pi (Y := m_X10_findMisses) (pc := 79) 42 kX10 sM_0 (by decide +kernel) rfl rfl rfl tw_1112 dX10_findMisses_79 ?_
            refine V_aload_n (Y := m_X10_findMisses) (pc := 82) 1 dX10_findMisses_82 rfl ?_
            refine V_dup (Y := m_X10_findMisses) (pc := 83) dX10_findMisses_83 rfl ?_
            refine V_gi (Y := m_X10_findMisses) (pc := 84) 43 kX10 sM_0 (by decide +kernel) rfl tw_1113 dX10_findMisses_84 ?_
            refine V_iconst (Y := m_X10_findMisses) (pc := 87) (x := (1 : Int32)) dX10_findMisses_87 (by decide +kernel) ?_
            refine V_iadd (Y := m_X10_findMisses) (pc := 88) dX10_findMisses_88 ?_
            refine V_pi (Y := m_X10_findMisses) (pc := 89) 43 kX10 sM_0 (by decide +kernel) rfl rfl rfl tw_1113 dX10_findMisses_89 ?_
            exact V_sub [1, 2, 3] rfl (ok_X10_findMisses_b92 (f_X10_findMisses_b12  n) ih x1 x2 (mset (mset q6.2 0 42 ((q2.2 0 42) + q6.1)) 0 43 (((mset q6.2 0 42 ((q2.2 0 42) + q6.1)) 0 43) + (1 : Int32))) z  hf)
def f_X10_findMisses_b0  (x1 : Int32) (M : Mem) : Option (Int32 × Mem) :=
  f_X10_findMisses_b12  FU x1 (0 : Int32) (mset (mset M 0 42 (0 : Int32)) 0 43 (0 : Int32))
set_option maxRecDepth 20000 in
set_option maxHeartbeats 4000000 in
theorem ok_X10_findMisses_b0 {l : Launch} {g : Gam} {b : Nat}   (x1 : Int32) (M : Mem) (z : Int32 × Mem)  (hf : f_X10_findMisses_b0 x1 M = some z) : V l g (wM b) m_X10_findMisses 0 [(0, .ref (b + 0)), (1, .int x1)] [] M none z.2 := by
  unfold f_X10_findMisses_b0 at hf
  refine V_aload_n (Y := m_X10_findMisses) (pc := 0) 0 dX10_findMisses_0 rfl ?_
  refine V_iconst (Y := m_X10_findMisses) (pc := 1) (x := (0 : Int32)) dX10_findMisses_1 (by decide +kernel) ?_
  refine V_pi (Y := m_X10_findMisses) (pc := 2) 42 kX10 sM_0 (by decide +kernel) rfl rfl rfl tw_1112 dX10_findMisses_2 ?_
  refine V_aload_n (Y := m_X10_findMisses) (pc := 5) 0 dX10_findMisses_5 rfl ?_
  refine V_iconst (Y := m_X10_findMisses) (pc := 6) (x := (0 : Int32)) dX10_findMisses_6 (by decide +kernel) ?_
  refine V_pi (Y := m_X10_findMisses) (pc := 7) 43 kX10 sM_0 (by decide +kernel) rfl rfl rfl tw_1113 dX10_findMisses_7 ?_
  refine V_iconst (Y := m_X10_findMisses) (pc := 10) (x := (0 : Int32)) dX10_findMisses_10 (by decide +kernel) ?_
  refine V_istore_n (Y := m_X10_findMisses) (pc := 11) [(2, .int (0 : Int32)), (0, .ref (b + 0)), (1, .int x1)] dX10_findMisses_11 (by decide +kernel) rfl ?_
  exact V_sub [1, 2, 0] rfl (ok_X10_findMisses_b12  FU x1 (0 : Int32) (mset (mset M 0 42 (0 : Int32)) 0 43 (0 : Int32)) z  hf)
def f_X10_findMisses (x1 : Int32) (M : Mem) : Option (Int32 × Mem) := f_X10_findMisses_b0 x1 M
set_option maxRecDepth 20000 in
set_option maxHeartbeats 4000000 in
theorem ok_X10_findMisses {l : Launch} {g : Gam} {b : Nat} : ∀ (x1 : Int32) (M : Mem) (z : Int32 × Mem), f_X10_findMisses x1 M = some z → Cn l g (wM b) m_X10_findMisses [.ref (b + 0), .int x1] M none z.2 := fun x1 M z  hf => Cn_of (by decide +kernel) (Nat.le_of_ble_eq_true rfl) (V_sub [0, 1] rfl (ok_X10_findMisses_b0 x1 M z  hf))

abbrev m_X10_misses : Mth := (yX10_misses, cX10_misses, 3, some .int, 7)
theorem yf_X10_misses : YF m_X10_misses 2 := ⟨tw_1572, tw_75, by decide +kernel, by decide +kernel⟩
def f_X10_misses_b0  (x1 : Int32) (x2 : Int32) (M : Mem) : Option (Int32 × Mem) :=
  (f_X10_isVoyage x1 M).bind fun q1 =>
  if q1.1 = 0 then
    some ((-1000000001 : Int32), q1.2)
  else
    (f_X10_isIn x2.toInt64 (0 : Int64) (1 : Int64) q1.2).bind fun q2 =>
    if q2.1 = 0 then
      some ((-1000000001 : Int32), q2.2)
    else
      (f_X10_findMisses x1 q2.2).bind fun q3 =>
      if x2 = 0 then
        some ((q3.2 0 42), q3.2)
      else
        some ((q3.2 0 43), q3.2)
set_option maxRecDepth 20000 in
set_option maxHeartbeats 4000000 in
theorem ok_X10_misses_b0 {l : Launch} {g : Gam} {b : Nat}   (x1 : Int32) (x2 : Int32) (M : Mem) (z : Int32 × Mem)  (hf : f_X10_misses_b0 x1 x2 M = some z) : V l g (wM b) m_X10_misses 0 [(0, .ref (b + 0)), (1, .int x1), (2, .int x2)] [] M (some (.int z.1)) z.2 := by
  unfold f_X10_misses_b0 at hf
  refine V_iload_n (Y := m_X10_misses) (pc := 0) 1 dX10_misses_0 rfl ?_
  obtain ⟨q1, hq1, hf⟩ := g_bind hf
  refine V_cSi (Y := m_X10_misses) (pc := 1) (As := [.int x1]) yf_X10_isVoyage (by decide +kernel) (ok_X10_isVoyage x1 M _  hq1) tw_1411 tw_1410 rfl rfl (Nat.le_of_ble_eq_true rfl) dX10_misses_1 ?_
  refine V_if_eq (Y := m_X10_misses) (pc := 4) (tgt := 17) dX10_misses_4 (by decide +kernel) hf (fun hf => ?_) (fun hf => ?_)
  · refine V_ldc (Y := m_X10_misses) (pc := 17) (x := (-1000000001 : Int32)) dX10_misses_17 tw_1224 ?_
    obtain rfl := Option.some.inj hf
    exact V_iret (Y := m_X10_misses) rfl dX10_misses_19
  · refine V_iload_n (Y := m_X10_misses) (pc := 7) 2 dX10_misses_7 rfl ?_
    refine V_i2l (Y := m_X10_misses) (pc := 8) dX10_misses_8 ?_
    refine V_lconst (Y := m_X10_misses) (pc := 9) (x := (0 : Int64)) dX10_misses_9 (by decide +kernel) ?_
    refine V_lconst (Y := m_X10_misses) (pc := 10) (x := (1 : Int64)) dX10_misses_10 (by decide +kernel) ?_
    obtain ⟨q2, hq2, hf⟩ := g_bind hf
    refine V_cSi (Y := m_X10_misses) (pc := 11) (As := [.long x2.toInt64, .long (0 : Int64), .long (1 : Int64)]) yf_X10_isIn (by decide +kernel) (ok_X10_isIn x2.toInt64 (0 : Int64) (1 : Int64) q1.2 _  hq2) tw_1218 tw_1217 rfl rfl (Nat.le_of_ble_eq_true rfl) dX10_misses_11 ?_
    refine V_if_ne (Y := m_X10_misses) (pc := 14) (tgt := 20) dX10_misses_14 (by decide +kernel) hf (fun hf => ?_) (fun hf => ?_)
    · refine V_aload_n (Y := m_X10_misses) (pc := 20) 0 dX10_misses_20 rfl ?_
      refine V_iload_n (Y := m_X10_misses) (pc := 21) 1 dX10_misses_21 rfl ?_
      obtain ⟨q3, hq3, hf⟩ := g_bind hf
      refine V_cVv (Y := m_X10_misses) (pc := 22) (As := [.int x1]) yf_X10_findMisses kX10 sM_0 (by decide +kernel) (ok_X10_findMisses x1 q2.2 _  hq3) tw_1575 tw_60 tw_1573 rfl rfl (Nat.le_of_ble_eq_true rfl) dX10_misses_22 ?_
      refine V_iload_n (Y := m_X10_misses) (pc := 25) 2 dX10_misses_25 rfl ?_
      refine V_if_ne (Y := m_X10_misses) (pc := 26) (tgt := 36) dX10_misses_26 (by decide +kernel) hf (fun hf => ?_) (fun hf => ?_)
      · refine V_aload_n (Y := m_X10_misses) (pc := 36) 0 dX10_misses_36 rfl ?_
        refine V_gi (Y := m_X10_misses) (pc := 37) 43 kX10 sM_0 (by decide +kernel) rfl tw_1113 dX10_misses_37 ?_
        obtain rfl := Option.some.inj hf
        exact V_iret (Y := m_X10_misses) rfl dX10_misses_40
      · refine V_aload_n (Y := m_X10_misses) (pc := 29) 0 dX10_misses_29 rfl ?_
        refine V_gi (Y := m_X10_misses) (pc := 30) 42 kX10 sM_0 (by decide +kernel) rfl tw_1112 dX10_misses_30 ?_
        refine V_goto (Y := m_X10_misses) (pc := 33) (tgt := 40) dX10_misses_33 (by decide +kernel) ?_
        obtain rfl := Option.some.inj hf
        exact V_iret (Y := m_X10_misses) rfl dX10_misses_40
    · refine V_ldc (Y := m_X10_misses) (pc := 17) (x := (-1000000001 : Int32)) dX10_misses_17 tw_1224 ?_
      obtain rfl := Option.some.inj hf
      exact V_iret (Y := m_X10_misses) rfl dX10_misses_19
def f_X10_misses (x1 : Int32) (x2 : Int32) (M : Mem) : Option (Int32 × Mem) := f_X10_misses_b0 x1 x2 M
set_option maxRecDepth 20000 in
set_option maxHeartbeats 4000000 in
theorem ok_X10_misses {l : Launch} {g : Gam} {b : Nat} : ∀ (x1 : Int32) (x2 : Int32) (M : Mem) (z : Int32 × Mem), f_X10_misses x1 x2 M = some z → Cn l g (wM b) m_X10_misses [.ref (b + 0), .int x1, .int x2] M (some (.int z.1)) z.2 := fun x1 x2 M z  hf => Cn_of (by decide +kernel) (Nat.le_of_ble_eq_true rfl) (V_sub [0, 1, 2] rfl (ok_X10_misses_b0 x1 x2 M z  hf))

abbrev m_X10_best : Mth := (yX10_best, cX10_best, 4, some .int, 7)
theorem yf_X10_best : YF m_X10_best 0 := ⟨tw_1580, tw_75, by decide +kernel, by decide +kernel⟩
def f_X10_best_b58  (x1 : Int32) (M : Mem) : Option (Int32 × Mem) :=
  (f_X10_orNone x1 M).bind fun q1 =>
  some (q1.1, q1.2)
set_option maxRecDepth 20000 in
set_option maxHeartbeats 4000000 in
theorem ok_X10_best_b58 {l : Launch} {g : Gam} {b : Nat}   (x1 : Int32) (M : Mem) (z : Int32 × Mem)  (hf : f_X10_best_b58 x1 M = some z) : V l g (wM b) m_X10_best 58 [(1, .int x1)] [] M (some (.int z.1)) z.2 := by
  unfold f_X10_best_b58 at hf
  refine V_iload_n (Y := m_X10_best) (pc := 58) 0 dX10_best_58 rfl ?_
  obtain ⟨q1, hq1, hf⟩ := g_bind hf
  refine V_cSi (Y := m_X10_best) (pc := 59) (As := [.int x1]) yf_X10_orNone (by decide +kernel) (ok_X10_orNone x1 M _  hq1) tw_1247 tw_1246 rfl rfl (Nat.le_of_ble_eq_true rfl) dX10_best_59 ?_
  obtain rfl := Option.some.inj hf
  exact V_iret (Y := m_X10_best) rfl dX10_best_62
def f_X10_best_b52 (k6 : Int32 → Int32 → Int32 → Mem → Option (Int32 × Mem)) (x1 : Int32) (x2 : Int32) (x3 : Int32) (M : Mem) : Option (Int32 × Mem) :=
  k6 x1 x2 (x3 + (1 : Int32)) M
set_option maxRecDepth 20000 in
set_option maxHeartbeats 4000000 in
theorem ok_X10_best_b52 {l : Launch} {g : Gam} {b : Nat} (k6 : Int32 → Int32 → Int32 → Mem → Option (Int32 × Mem)) (hk6 : ∀ (x1 : Int32) (x2 : Int32) (x3 : Int32) (M : Mem) (z : Int32 × Mem), k6 x1 x2 x3 M = some z → V l g (wM b) m_X10_best 6 [(0, .ref (b + 0)), (1, .int x1), (2, .int x2), (3, .int x3)] [] M (some (.int z.1)) z.2) (x1 : Int32) (x2 : Int32) (x3 : Int32) (M : Mem) (z : Int32 × Mem)  (hf : f_X10_best_b52 k6 x1 x2 x3 M = some z) : V l g (wM b) m_X10_best 52 [(0, .ref (b + 0)), (1, .int x1), (2, .int x2), (3, .int x3)] [] M (some (.int z.1)) z.2 := by
  unfold f_X10_best_b52 at hf
  refine V_iinc (Y := m_X10_best) (pc := 52) (y := (x3 + (1 : Int32))) 3 [(3, .int (x3 + (1 : Int32))), (0, .ref (b + 0)), (1, .int x1), (2, .int x2)] dX10_best_52 rfl rfl (by decide +kernel) rfl ?_
  refine V_goto (Y := m_X10_best) (pc := 55) (tgt := 6) dX10_best_55 (by decide +kernel) ?_
  exact V_sub [1, 2, 3, 0] rfl (hk6 x1 x2 (x3 + (1 : Int32)) M z  hf)
def f_X10_best_b40 (k6 : Int32 → Int32 → Int32 → Mem → Option (Int32 × Mem)) (x3 : Int32) (M : Mem) : Option (Int32 × Mem) :=
  if (M 0 43) = 0 then none else
  f_X10_best_b52 k6 x3 ((M 0 42) / (M 0 43)) x3 M
set_option maxRecDepth 20000 in
set_option maxHeartbeats 4000000 in
theorem ok_X10_best_b40 {l : Launch} {g : Gam} {b : Nat} (k6 : Int32 → Int32 → Int32 → Mem → Option (Int32 × Mem)) (hk6 : ∀ (x1 : Int32) (x2 : Int32) (x3 : Int32) (M : Mem) (z : Int32 × Mem), k6 x1 x2 x3 M = some z → V l g (wM b) m_X10_best 6 [(0, .ref (b + 0)), (1, .int x1), (2, .int x2), (3, .int x3)] [] M (some (.int z.1)) z.2) (x3 : Int32) (M : Mem) (z : Int32 × Mem)  (hf : f_X10_best_b40 k6 x3 M = some z) : V l g (wM b) m_X10_best 40 [(0, .ref (b + 0)), (3, .int x3)] [] M (some (.int z.1)) z.2 := by
  unfold f_X10_best_b40 at hf
  refine V_iload_n (Y := m_X10_best) (pc := 40) 1 dX10_best_40 rfl ?_
  refine V_istore_n (Y := m_X10_best) (pc := 41) [(1, .int x3), (0, .ref (b + 0)), (3, .int x3)] dX10_best_41 (by decide +kernel) rfl ?_
  refine V_aload_n (Y := m_X10_best) (pc := 42) 1 dX10_best_42 rfl ?_
  refine V_gi (Y := m_X10_best) (pc := 43) 42 kX10 sM_0 (by decide +kernel) rfl tw_1112 dX10_best_43 ?_
  refine V_aload_n (Y := m_X10_best) (pc := 46) 1 dX10_best_46 rfl ?_
  refine V_gi (Y := m_X10_best) (pc := 47) 43 kX10 sM_0 (by decide +kernel) rfl tw_1113 dX10_best_47 ?_
  obtain ⟨hc1, hf⟩ := g_ifn hf
  refine V_idiv (Y := m_X10_best) (pc := 50) dX10_best_50 hc1 ?_
  refine V_istore_n (Y := m_X10_best) (pc := 51) [(2, .int ((M 0 42) / (M 0 43))), (1, .int x3), (0, .ref (b + 0)), (3, .int x3)] dX10_best_51 (by decide +kernel) rfl ?_
  exact V_sub [2, 1, 0, 3] rfl (ok_X10_best_b52 k6 hk6 x3 ((M 0 42) / (M 0 43)) x3 M z  hf)
def f_X10_best_b6  : Nat → Int32 → Int32 → Int32 → Mem → Option (Int32 × Mem)
  | 0, _, _, _, _ => none
  | n + 1, x1, x2, x3, M =>
    if (3 : Int32) ≤ x3 then
      f_X10_best_b58  x1 M
    else
      (f_X10_findMisses x3 M).bind fun q1 =>
      if (q1.2 0 43) ≤ 0 then
        f_X10_best_b52 (f_X10_best_b6  n) x1 x2 x3 q1.2
      else
        if x1 < 0 then
          f_X10_best_b40 (f_X10_best_b6  n) x3 q1.2
        else
          if (q1.2 0 43) = 0 then none else
          if x2 ≤ ((q1.2 0 42) / (q1.2 0 43)) then
            f_X10_best_b52 (f_X10_best_b6  n) x1 x2 x3 q1.2
          else
            f_X10_best_b40 (f_X10_best_b6  n) x3 q1.2
set_option maxRecDepth 20000 in
set_option maxHeartbeats 4000000 in
theorem ok_X10_best_b6 {l : Launch} {g : Gam} {b : Nat}   : ∀ (n : Nat) (x1 : Int32) (x2 : Int32) (x3 : Int32) (M : Mem) (z : Int32 × Mem), f_X10_best_b6  n x1 x2 x3 M = some z → V l g (wM b) m_X10_best 6 [(0, .ref (b + 0)), (1, .int x1), (2, .int x2), (3, .int x3)] [] M (some (.int z.1)) z.2 := by
  intro n
  induction n with
  | zero =>
    intro x1 x2 x3 M z  hf
    cases hf
  | succ n ih =>
    intro x1 x2 x3 M z  hf
    rw [f_X10_best_b6] at hf
    refine V_iload_n (Y := m_X10_best) (pc := 6) 3 dX10_best_6 rfl ?_
    refine V_iconst (Y := m_X10_best) (pc := 7) (x := (3 : Int32)) dX10_best_7 (by decide +kernel) ?_
    refine V_icmp_ge (Y := m_X10_best) (pc := 8) (tgt := 58) dX10_best_8 (by decide +kernel) hf (fun hf => ?_) (fun hf => ?_)
    · exact V_sub [1] rfl (ok_X10_best_b58  x1 M z  hf)
    · refine V_aload_n (Y := m_X10_best) (pc := 11) 0 dX10_best_11 rfl ?_
      refine V_iload_n (Y := m_X10_best) (pc := 12) 3 dX10_best_12 rfl ?_
      obtain ⟨q1, hq1, hf⟩ := g_bind hf
      refine V_cVv (Y := m_X10_best) (pc := 13) (As := [.int x3]) yf_X10_findMisses kX10 sM_0 (by decide +kernel) (ok_X10_findMisses x3 M _  hq1) tw_1575 tw_60 tw_1573 rfl rfl (Nat.le_of_ble_eq_true rfl) dX10_best_13 ?_
      refine V_aload_n (Y := m_X10_best) (pc := 16) 0 dX10_best_16 rfl ?_
      refine V_gi (Y := m_X10_best) (pc := 17) 43 kX10 sM_0 (by decide +kernel) rfl tw_1113 dX10_best_17 ?_
      refine V_if_le (Y := m_X10_best) (pc := 20) (tgt := 52) dX10_best_20 (by decide +kernel) hf (fun hf => ?_) (fun hf => ?_)
      · exact V_sub [0, 1, 2, 3] rfl (ok_X10_best_b52 (f_X10_best_b6  n) ih x1 x2 x3 q1.2 z  hf)
      · refine V_iload_n (Y := m_X10_best) (pc := 23) 1 dX10_best_23 rfl ?_
        refine V_if_lt (Y := m_X10_best) (pc := 24) (tgt := 40) dX10_best_24 (by decide +kernel) hf (fun hf => ?_) (fun hf => ?_)
        · exact V_sub [0, 3] rfl (ok_X10_best_b40 (f_X10_best_b6  n) ih x3 q1.2 z  hf)
        · refine V_aload_n (Y := m_X10_best) (pc := 27) 0 dX10_best_27 rfl ?_
          refine V_gi (Y := m_X10_best) (pc := 28) 42 kX10 sM_0 (by decide +kernel) rfl tw_1112 dX10_best_28 ?_
          refine V_aload_n (Y := m_X10_best) (pc := 31) 0 dX10_best_31 rfl ?_
          refine V_gi (Y := m_X10_best) (pc := 32) 43 kX10 sM_0 (by decide +kernel) rfl tw_1113 dX10_best_32 ?_
          obtain ⟨hc2, hf⟩ := g_ifn hf
          refine V_idiv (Y := m_X10_best) (pc := 35) dX10_best_35 hc2 ?_
          refine V_iload_n (Y := m_X10_best) (pc := 36) 2 dX10_best_36 rfl ?_
          refine V_icmp_ge (Y := m_X10_best) (pc := 37) (tgt := 52) dX10_best_37 (by decide +kernel) hf (fun hf => ?_) (fun hf => ?_)
          · exact V_sub [0, 1, 2, 3] rfl (ok_X10_best_b52 (f_X10_best_b6  n) ih x1 x2 x3 q1.2 z  hf)
          · exact V_sub [0, 3] rfl (ok_X10_best_b40 (f_X10_best_b6  n) ih x3 q1.2 z  hf)
def f_X10_best_b0   (M : Mem) : Option (Int32 × Mem) :=
  f_X10_best_b6  FU (-1 : Int32) (0 : Int32) (0 : Int32) M
set_option maxRecDepth 20000 in
set_option maxHeartbeats 4000000 in
theorem ok_X10_best_b0 {l : Launch} {g : Gam} {b : Nat}    (M : Mem) (z : Int32 × Mem)  (hf : f_X10_best_b0  M = some z) : V l g (wM b) m_X10_best 0 [(0, .ref (b + 0))] [] M (some (.int z.1)) z.2 := by
  unfold f_X10_best_b0 at hf
  refine V_iconst (Y := m_X10_best) (pc := 0) (x := (-1 : Int32)) dX10_best_0 (by decide +kernel) ?_
  refine V_istore_n (Y := m_X10_best) (pc := 1) [(1, .int (-1 : Int32)), (0, .ref (b + 0))] dX10_best_1 (by decide +kernel) rfl ?_
  refine V_iconst (Y := m_X10_best) (pc := 2) (x := (0 : Int32)) dX10_best_2 (by decide +kernel) ?_
  refine V_istore_n (Y := m_X10_best) (pc := 3) [(2, .int (0 : Int32)), (1, .int (-1 : Int32)), (0, .ref (b + 0))] dX10_best_3 (by decide +kernel) rfl ?_
  refine V_iconst (Y := m_X10_best) (pc := 4) (x := (0 : Int32)) dX10_best_4 (by decide +kernel) ?_
  refine V_istore_n (Y := m_X10_best) (pc := 5) [(3, .int (0 : Int32)), (2, .int (0 : Int32)), (1, .int (-1 : Int32)), (0, .ref (b + 0))] dX10_best_5 (by decide +kernel) rfl ?_
  exact V_sub [3, 2, 1, 0] rfl (ok_X10_best_b6  FU (-1 : Int32) (0 : Int32) (0 : Int32) M z  hf)
def f_X10_best  (M : Mem) : Option (Int32 × Mem) := f_X10_best_b0  M
set_option maxRecDepth 20000 in
set_option maxHeartbeats 4000000 in
theorem ok_X10_best {l : Launch} {g : Gam} {b : Nat} : ∀  (M : Mem) (z : Int32 × Mem), f_X10_best  M = some z → Cn l g (wM b) m_X10_best [.ref (b + 0)] M (some (.int z.1)) z.2 := fun  M z  hf => Cn_of (by decide +kernel) (Nat.le_of_ble_eq_true rfl) (V_sub [0] rfl (ok_X10_best_b0  M z  hf))

abbrev m_X10_seed : Mth := (yX10_seed, cX10_seed, 2, some .int, 2)
theorem yf_X10_seed : YF m_X10_seed 1 := ⟨tw_1584, tw_75, by decide +kernel, by decide +kernel⟩
def f_X10_seed_b0  (x1 : Int32) (M : Mem) : Option (Int32 × Mem) :=
  (f_X10_becomes (4 : Int32) x1 M).bind fun q1 =>
  some (q1.1, q1.2)
set_option maxRecDepth 20000 in
set_option maxHeartbeats 4000000 in
theorem ok_X10_seed_b0 {l : Launch} {g : Gam} {b : Nat}   (x1 : Int32) (M : Mem) (z : Int32 × Mem)  (hf : f_X10_seed_b0 x1 M = some z) : V l g (wM b) m_X10_seed 0 [(0, .ref (b + 0)), (1, .int x1)] [] M (some (.int z.1)) z.2 := by
  unfold f_X10_seed_b0 at hf
  refine V_aload_n (Y := m_X10_seed) (pc := 0) 0 dX10_seed_0 rfl ?_
  refine V_iconst (Y := m_X10_seed) (pc := 1) (x := (4 : Int32)) dX10_seed_1 (by decide +kernel) ?_
  refine V_iload_n (Y := m_X10_seed) (pc := 2) 1 dX10_seed_2 rfl ?_
  obtain ⟨q1, hq1, hf⟩ := g_bind hf
  refine V_cVi (Y := m_X10_seed) (pc := 3) (As := [.int (4 : Int32), .int x1]) yf_X10_becomes kX10 sM_0 (by decide +kernel) (ok_X10_becomes (4 : Int32) x1 M _  hq1) tw_1311 tw_30 tw_1309 rfl rfl (Nat.le_of_ble_eq_true rfl) dX10_seed_3 ?_
  obtain rfl := Option.some.inj hf
  exact V_iret (Y := m_X10_seed) rfl dX10_seed_6
def f_X10_seed (x1 : Int32) (M : Mem) : Option (Int32 × Mem) := f_X10_seed_b0 x1 M
set_option maxRecDepth 20000 in
set_option maxHeartbeats 4000000 in
theorem ok_X10_seed {l : Launch} {g : Gam} {b : Nat} : ∀ (x1 : Int32) (M : Mem) (z : Int32 × Mem), f_X10_seed x1 M = some z → Cn l g (wM b) m_X10_seed [.ref (b + 0), .int x1] M (some (.int z.1)) z.2 := fun x1 M z  hf => Cn_of (by decide +kernel) (Nat.le_of_ble_eq_true rfl) (V_sub [0, 1] rfl (ok_X10_seed_b0 x1 M z  hf))

abbrev m_X10_drawn : Mth := (yX10_drawn, cX10_drawn, 3, some .int, 1)
theorem yf_X10_drawn : YF m_X10_drawn 2 := ⟨tw_1593, tw_75, by decide +kernel, by decide +kernel⟩
def f_X10_drawn_b0  (x1 : Int32) (x2 : Int32) (M : Mem) : Option (Int32 × Mem) :=
  if (((2 : Int32) * x2) + (1 : Int32)) = 0 then none else
  some (((x1 - x2) + (irem (iushr ((mset M 1 4 (((M 1 4) * (1103515245 : Int32)) + (12345 : Int32))) 1 4) (8 : Int32)) (((2 : Int32) * x2) + (1 : Int32)))), (mset M 1 4 (((M 1 4) * (1103515245 : Int32)) + (12345 : Int32))))
set_option maxRecDepth 20000 in
set_option maxHeartbeats 4000000 in
theorem ok_X10_drawn_b0 {l : Launch} {g : Gam} {b : Nat}   (x1 : Int32) (x2 : Int32) (M : Mem) (z : Int32 × Mem)  (hf : f_X10_drawn_b0 x1 x2 M = some z) : V l g (wM b) m_X10_drawn 0 [(0, .ref (b + 0)), (1, .int x1), (2, .int x2)] [] M (some (.int z.1)) z.2 := by
  unfold f_X10_drawn_b0 at hf
  refine V_aload_n (Y := m_X10_drawn) (pc := 0) 0 dX10_drawn_0 rfl ?_
  refine V_grL (Y := m_X10_drawn) (pc := 1) (x := 1) 0 kX10 sM_0 (by decide +kernel) rfl rfl tw_1070 dX10_drawn_1 ?_
  refine V_iconst (Y := m_X10_drawn) (pc := 4) (x := (4 : Int32)) dX10_drawn_4 (by decide +kernel) ?_
  refine V_aload_n (Y := m_X10_drawn) (pc := 5) 0 dX10_drawn_5 rfl ?_
  refine V_grL (Y := m_X10_drawn) (pc := 6) (x := 1) 0 kX10 sM_0 (by decide +kernel) rfl rfl tw_1070 dX10_drawn_6 ?_
  refine V_iconst (Y := m_X10_drawn) (pc := 9) (x := (4 : Int32)) dX10_drawn_9 (by decide +kernel) ?_
  refine V_ialdL (Y := m_X10_drawn) (pc := 10) (j := 4) sM_1 (by decide +kernel) rfl dX10_drawn_10 ?_
  refine V_ldcw (Y := m_X10_drawn) (pc := 11) (x := (1103515245 : Int32)) dX10_drawn_11 tw_1594 ?_
  refine V_imul (Y := m_X10_drawn) (pc := 14) dX10_drawn_14 ?_
  refine V_sipush (Y := m_X10_drawn) (pc := 15) (x := (12345 : Int32)) dX10_drawn_15 (by decide +kernel) ?_
  refine V_iadd (Y := m_X10_drawn) (pc := 18) dX10_drawn_18 ?_
  refine V_iastL (Y := m_X10_drawn) (pc := 19) (j := 4) sM_1 (by decide +kernel) rfl dX10_drawn_19 ?_
  refine V_iload_n (Y := m_X10_drawn) (pc := 20) 1 dX10_drawn_20 rfl ?_
  refine V_iload_n (Y := m_X10_drawn) (pc := 21) 2 dX10_drawn_21 rfl ?_
  refine V_isub (Y := m_X10_drawn) (pc := 22) dX10_drawn_22 ?_
  refine V_aload_n (Y := m_X10_drawn) (pc := 23) 0 dX10_drawn_23 rfl ?_
  refine V_grL (Y := m_X10_drawn) (pc := 24) (x := 1) 0 kX10 sM_0 (by decide +kernel) rfl rfl tw_1070 dX10_drawn_24 ?_
  refine V_iconst (Y := m_X10_drawn) (pc := 27) (x := (4 : Int32)) dX10_drawn_27 (by decide +kernel) ?_
  refine V_ialdL (Y := m_X10_drawn) (pc := 28) (j := 4) sM_1 (by decide +kernel) rfl dX10_drawn_28 ?_
  refine V_bipush (Y := m_X10_drawn) (pc := 29) (x := (8 : Int32)) dX10_drawn_29 (by decide +kernel) ?_
  refine V_iushr (Y := m_X10_drawn) (pc := 31) dX10_drawn_31 ?_
  refine V_iconst (Y := m_X10_drawn) (pc := 32) (x := (2 : Int32)) dX10_drawn_32 (by decide +kernel) ?_
  refine V_iload_n (Y := m_X10_drawn) (pc := 33) 2 dX10_drawn_33 rfl ?_
  refine V_imul (Y := m_X10_drawn) (pc := 34) dX10_drawn_34 ?_
  refine V_iconst (Y := m_X10_drawn) (pc := 35) (x := (1 : Int32)) dX10_drawn_35 (by decide +kernel) ?_
  refine V_iadd (Y := m_X10_drawn) (pc := 36) dX10_drawn_36 ?_
  obtain ⟨hc1, hf⟩ := g_ifn hf
  refine V_irem (Y := m_X10_drawn) (pc := 37) dX10_drawn_37 hc1 ?_
  refine V_iadd (Y := m_X10_drawn) (pc := 38) dX10_drawn_38 ?_
  obtain rfl := Option.some.inj hf
  exact V_iret (Y := m_X10_drawn) rfl dX10_drawn_39
def f_X10_drawn (x1 : Int32) (x2 : Int32) (M : Mem) : Option (Int32 × Mem) := f_X10_drawn_b0 x1 x2 M
set_option maxRecDepth 20000 in
set_option maxHeartbeats 4000000 in
theorem ok_X10_drawn {l : Launch} {g : Gam} {b : Nat} : ∀ (x1 : Int32) (x2 : Int32) (M : Mem) (z : Int32 × Mem), f_X10_drawn x1 x2 M = some z → Cn l g (wM b) m_X10_drawn [.ref (b + 0), .int x1, .int x2] M (some (.int z.1)) z.2 := fun x1 x2 M z  hf => Cn_of (by decide +kernel) (Nat.le_of_ble_eq_true rfl) (V_sub [0, 1, 2] rfl (ok_X10_drawn_b0 x1 x2 M z  hf))

abbrev m_X10_share : Mth := (yX10_share, cX10_share, 10, some .int, 2)
theorem yf_X10_share : YF m_X10_share 3 := ⟨tw_1588, tw_75, by decide +kernel, by decide +kernel⟩
def f_X10_share_b140 (k45 : Int32 → Int32 → Int32 → Int32 → Int32 → Mem → Option (Int32 × Mem)) (x1 : Int32) (x2 : Int32) (x3 : Int32) (x5 : Int32) (s0 : Int32) (s1 : Int32) (M : Mem) : Option (Int32 × Mem) :=
  k45 x1 x2 x3 (s1 + s0) (x5 + (1 : Int32)) M
set_option maxRecDepth 20000 in
set_option maxHeartbeats 4000000 in
theorem ok_X10_share_b140 {l : Launch} {g : Gam} {b : Nat} (k45 : Int32 → Int32 → Int32 → Int32 → Int32 → Mem → Option (Int32 × Mem)) (hk45 : ∀ (x1 : Int32) (x2 : Int32) (x3 : Int32) (x4 : Int32) (x5 : Int32) (M : Mem) (z : Int32 × Mem), k45 x1 x2 x3 x4 x5 M = some z → V l g (wM b) m_X10_share 45 [(0, .ref (b + 0)), (1, .int x1), (2, .int x2), (3, .int x3), (4, .int x4), (5, .int x5)] [] M (some (.int z.1)) z.2) (x1 : Int32) (x2 : Int32) (x3 : Int32) (x5 : Int32) (s0 : Int32) (s1 : Int32) (M : Mem) (z : Int32 × Mem)  (hf : f_X10_share_b140 k45 x1 x2 x3 x5 s0 s1 M = some z) : V l g (wM b) m_X10_share 140 [(0, .ref (b + 0)), (1, .int x1), (2, .int x2), (3, .int x3), (5, .int x5)] [.int s0, .int s1] M (some (.int z.1)) z.2 := by
  unfold f_X10_share_b140 at hf
  refine V_iadd (Y := m_X10_share) (pc := 140) dX10_share_140 ?_
  refine V_istore (Y := m_X10_share) (pc := 141) [(4, .int (s1 + s0)), (0, .ref (b + 0)), (1, .int x1), (2, .int x2), (3, .int x3), (5, .int x5)] dX10_share_141 (by decide +kernel) rfl ?_
  refine V_iinc (Y := m_X10_share) (pc := 143) (y := (x5 + (1 : Int32))) 5 [(5, .int (x5 + (1 : Int32))), (4, .int (s1 + s0)), (0, .ref (b + 0)), (1, .int x1), (2, .int x2), (3, .int x3)] dX10_share_143 rfl rfl (by decide +kernel) rfl ?_
  refine V_goto (Y := m_X10_share) (pc := 146) (tgt := 45) dX10_share_146 (by decide +kernel) ?_
  exact V_sub [2, 3, 4, 5, 1, 0] rfl (hk45 x1 x2 x3 (s1 + s0) (x5 + (1 : Int32)) M z  hf)
def f_X10_share_b128 (k45 : Int32 → Int32 → Int32 → Int32 → Int32 → Mem → Option (Int32 × Mem)) (x1 : Int32) (x2 : Int32) (x3 : Int32) (x4 : Int32) (x5 : Int32) (x6 : Int32) (M : Mem) : Option (Int32 × Mem) :=
  if x6 = 0 then
    f_X10_share_b140 k45 x1 x2 x3 x5 (0 : Int32) x4 M
  else
    f_X10_share_b140 k45 x1 x2 x3 x5 (1 : Int32) x4 M
set_option maxRecDepth 20000 in
set_option maxHeartbeats 4000000 in
theorem ok_X10_share_b128 {l : Launch} {g : Gam} {b : Nat} (k45 : Int32 → Int32 → Int32 → Int32 → Int32 → Mem → Option (Int32 × Mem)) (hk45 : ∀ (x1 : Int32) (x2 : Int32) (x3 : Int32) (x4 : Int32) (x5 : Int32) (M : Mem) (z : Int32 × Mem), k45 x1 x2 x3 x4 x5 M = some z → V l g (wM b) m_X10_share 45 [(0, .ref (b + 0)), (1, .int x1), (2, .int x2), (3, .int x3), (4, .int x4), (5, .int x5)] [] M (some (.int z.1)) z.2) (x1 : Int32) (x2 : Int32) (x3 : Int32) (x4 : Int32) (x5 : Int32) (x6 : Int32) (M : Mem) (z : Int32 × Mem)  (hf : f_X10_share_b128 k45 x1 x2 x3 x4 x5 x6 M = some z) : V l g (wM b) m_X10_share 128 [(0, .ref (b + 0)), (1, .int x1), (2, .int x2), (3, .int x3), (4, .int x4), (5, .int x5), (6, .int x6)] [] M (some (.int z.1)) z.2 := by
  unfold f_X10_share_b128 at hf
  refine V_iload (Y := m_X10_share) (pc := 128) 4 dX10_share_128 rfl ?_
  refine V_iload (Y := m_X10_share) (pc := 130) 6 dX10_share_130 rfl ?_
  refine V_if_eq (Y := m_X10_share) (pc := 132) (tgt := 139) dX10_share_132 (by decide +kernel) hf (fun hf => ?_) (fun hf => ?_)
  · refine V_iconst (Y := m_X10_share) (pc := 139) (x := (0 : Int32)) dX10_share_139 (by decide +kernel) ?_
    exact V_sub [0, 1, 2, 3, 5] rfl (ok_X10_share_b140 k45 hk45 x1 x2 x3 x5 (0 : Int32) x4 M z  hf)
  · refine V_iconst (Y := m_X10_share) (pc := 135) (x := (1 : Int32)) dX10_share_135 (by decide +kernel) ?_
    refine V_goto (Y := m_X10_share) (pc := 136) (tgt := 140) dX10_share_136 (by decide +kernel) ?_
    exact V_sub [0, 1, 2, 3, 5] rfl (ok_X10_share_b140 k45 hk45 x1 x2 x3 x5 (1 : Int32) x4 M z  hf)
def f_X10_share_b120 (k45 : Int32 → Int32 → Int32 → Int32 → Int32 → Mem → Option (Int32 × Mem)) (k57 : Int32 → Int32 → Int32 → Int32 → Int32 → Int32 → Int32 → Mem → Option (Int32 × Mem)) (x1 : Int32) (x2 : Int32) (x3 : Int32) (x4 : Int32) (x5 : Int32) (x7 : Int32) (s0 : Int32) (M : Mem) : Option (Int32 × Mem) :=
  k57 x1 x2 x3 x4 x5 s0 (x7 + (1 : Int32)) M
set_option maxRecDepth 20000 in
set_option maxHeartbeats 4000000 in
theorem ok_X10_share_b120 {l : Launch} {g : Gam} {b : Nat} (k45 : Int32 → Int32 → Int32 → Int32 → Int32 → Mem → Option (Int32 × Mem)) (k57 : Int32 → Int32 → Int32 → Int32 → Int32 → Int32 → Int32 → Mem → Option (Int32 × Mem)) (hk45 : ∀ (x1 : Int32) (x2 : Int32) (x3 : Int32) (x4 : Int32) (x5 : Int32) (M : Mem) (z : Int32 × Mem), k45 x1 x2 x3 x4 x5 M = some z → V l g (wM b) m_X10_share 45 [(0, .ref (b + 0)), (1, .int x1), (2, .int x2), (3, .int x3), (4, .int x4), (5, .int x5)] [] M (some (.int z.1)) z.2) (hk57 : ∀ (x1 : Int32) (x2 : Int32) (x3 : Int32) (x4 : Int32) (x5 : Int32) (x6 : Int32) (x7 : Int32) (M : Mem) (z : Int32 × Mem), k57 x1 x2 x3 x4 x5 x6 x7 M = some z → V l g (wM b) m_X10_share 57 [(0, .ref (b + 0)), (1, .int x1), (2, .int x2), (3, .int x3), (4, .int x4), (5, .int x5), (6, .int x6), (7, .int x7)] [] M (some (.int z.1)) z.2) (x1 : Int32) (x2 : Int32) (x3 : Int32) (x4 : Int32) (x5 : Int32) (x7 : Int32) (s0 : Int32) (M : Mem) (z : Int32 × Mem)  (hf : f_X10_share_b120 k45 k57 x1 x2 x3 x4 x5 x7 s0 M = some z) : V l g (wM b) m_X10_share 120 [(0, .ref (b + 0)), (1, .int x1), (2, .int x2), (3, .int x3), (4, .int x4), (5, .int x5), (7, .int x7)] [.int s0] M (some (.int z.1)) z.2 := by
  unfold f_X10_share_b120 at hf
  refine V_istore (Y := m_X10_share) (pc := 120) [(6, .int s0), (0, .ref (b + 0)), (1, .int x1), (2, .int x2), (3, .int x3), (4, .int x4), (5, .int x5), (7, .int x7)] dX10_share_120 (by decide +kernel) rfl ?_
  refine V_iinc (Y := m_X10_share) (pc := 122) (y := (x7 + (1 : Int32))) 7 [(7, .int (x7 + (1 : Int32))), (6, .int s0), (0, .ref (b + 0)), (1, .int x1), (2, .int x2), (3, .int x3), (4, .int x4), (5, .int x5)] dX10_share_122 rfl rfl (by decide +kernel) rfl ?_
  refine V_goto (Y := m_X10_share) (pc := 125) (tgt := 57) dX10_share_125 (by decide +kernel) ?_
  exact V_sub [2, 3, 4, 5, 6, 7, 1, 0] rfl (hk57 x1 x2 x3 x4 x5 s0 (x7 + (1 : Int32)) M z  hf)
def f_X10_share_b119 (k45 : Int32 → Int32 → Int32 → Int32 → Int32 → Mem → Option (Int32 × Mem)) (k57 : Int32 → Int32 → Int32 → Int32 → Int32 → Int32 → Int32 → Mem → Option (Int32 × Mem)) (x1 : Int32) (x2 : Int32) (x3 : Int32) (x4 : Int32) (x5 : Int32) (x7 : Int32) (M : Mem) : Option (Int32 × Mem) :=
  f_X10_share_b120 k45 k57 x1 x2 x3 x4 x5 x7 (0 : Int32) M
set_option maxRecDepth 20000 in
set_option maxHeartbeats 4000000 in
theorem ok_X10_share_b119 {l : Launch} {g : Gam} {b : Nat} (k45 : Int32 → Int32 → Int32 → Int32 → Int32 → Mem → Option (Int32 × Mem)) (k57 : Int32 → Int32 → Int32 → Int32 → Int32 → Int32 → Int32 → Mem → Option (Int32 × Mem)) (hk45 : ∀ (x1 : Int32) (x2 : Int32) (x3 : Int32) (x4 : Int32) (x5 : Int32) (M : Mem) (z : Int32 × Mem), k45 x1 x2 x3 x4 x5 M = some z → V l g (wM b) m_X10_share 45 [(0, .ref (b + 0)), (1, .int x1), (2, .int x2), (3, .int x3), (4, .int x4), (5, .int x5)] [] M (some (.int z.1)) z.2) (hk57 : ∀ (x1 : Int32) (x2 : Int32) (x3 : Int32) (x4 : Int32) (x5 : Int32) (x6 : Int32) (x7 : Int32) (M : Mem) (z : Int32 × Mem), k57 x1 x2 x3 x4 x5 x6 x7 M = some z → V l g (wM b) m_X10_share 57 [(0, .ref (b + 0)), (1, .int x1), (2, .int x2), (3, .int x3), (4, .int x4), (5, .int x5), (6, .int x6), (7, .int x7)] [] M (some (.int z.1)) z.2) (x1 : Int32) (x2 : Int32) (x3 : Int32) (x4 : Int32) (x5 : Int32) (x7 : Int32) (M : Mem) (z : Int32 × Mem)  (hf : f_X10_share_b119 k45 k57 x1 x2 x3 x4 x5 x7 M = some z) : V l g (wM b) m_X10_share 119 [(0, .ref (b + 0)), (1, .int x1), (2, .int x2), (3, .int x3), (4, .int x4), (5, .int x5), (7, .int x7)] [] M (some (.int z.1)) z.2 := by
  unfold f_X10_share_b119 at hf
  refine V_iconst (Y := m_X10_share) (pc := 119) (x := (0 : Int32)) dX10_share_119 (by decide +kernel) ?_
  exact V_sub [0, 1, 2, 3, 4, 5, 6] rfl (ok_X10_share_b120 k45 k57 hk45 hk57 x1 x2 x3 x4 x5 x7 (0 : Int32) M z  hf)
def f_X10_share_b103 (k45 : Int32 → Int32 → Int32 → Int32 → Int32 → Mem → Option (Int32 × Mem)) (k57 : Int32 → Int32 → Int32 → Int32 → Int32 → Int32 → Int32 → Mem → Option (Int32 × Mem)) (x1 : Int32) (x2 : Int32) (x3 : Int32) (x4 : Int32) (x5 : Int32) (x6 : Int32) (x7 : Int32) (s0 : Int32) (M : Mem) : Option (Int32 × Mem) :=
  if x6 = 0 then
    f_X10_share_b119 k45 k57 x1 x2 x3 x4 x5 x7 M
  else
    if s0 = 0 then
      f_X10_share_b119 k45 k57 x1 x2 x3 x4 x5 x7 M
    else
      f_X10_share_b120 k45 k57 x1 x2 x3 x4 x5 x7 (1 : Int32) M
set_option maxRecDepth 20000 in
set_option maxHeartbeats 4000000 in
theorem ok_X10_share_b103 {l : Launch} {g : Gam} {b : Nat} (k45 : Int32 → Int32 → Int32 → Int32 → Int32 → Mem → Option (Int32 × Mem)) (k57 : Int32 → Int32 → Int32 → Int32 → Int32 → Int32 → Int32 → Mem → Option (Int32 × Mem)) (hk45 : ∀ (x1 : Int32) (x2 : Int32) (x3 : Int32) (x4 : Int32) (x5 : Int32) (M : Mem) (z : Int32 × Mem), k45 x1 x2 x3 x4 x5 M = some z → V l g (wM b) m_X10_share 45 [(0, .ref (b + 0)), (1, .int x1), (2, .int x2), (3, .int x3), (4, .int x4), (5, .int x5)] [] M (some (.int z.1)) z.2) (hk57 : ∀ (x1 : Int32) (x2 : Int32) (x3 : Int32) (x4 : Int32) (x5 : Int32) (x6 : Int32) (x7 : Int32) (M : Mem) (z : Int32 × Mem), k57 x1 x2 x3 x4 x5 x6 x7 M = some z → V l g (wM b) m_X10_share 57 [(0, .ref (b + 0)), (1, .int x1), (2, .int x2), (3, .int x3), (4, .int x4), (5, .int x5), (6, .int x6), (7, .int x7)] [] M (some (.int z.1)) z.2) (x1 : Int32) (x2 : Int32) (x3 : Int32) (x4 : Int32) (x5 : Int32) (x6 : Int32) (x7 : Int32) (s0 : Int32) (M : Mem) (z : Int32 × Mem)  (hf : f_X10_share_b103 k45 k57 x1 x2 x3 x4 x5 x6 x7 s0 M = some z) : V l g (wM b) m_X10_share 103 [(0, .ref (b + 0)), (1, .int x1), (2, .int x2), (3, .int x3), (4, .int x4), (5, .int x5), (6, .int x6), (7, .int x7)] [.int s0] M (some (.int z.1)) z.2 := by
  unfold f_X10_share_b103 at hf
  refine V_istore (Y := m_X10_share) (pc := 103) [(9, .int s0), (0, .ref (b + 0)), (1, .int x1), (2, .int x2), (3, .int x3), (4, .int x4), (5, .int x5), (6, .int x6), (7, .int x7)] dX10_share_103 (by decide +kernel) rfl ?_
  refine V_iload (Y := m_X10_share) (pc := 105) 7 dX10_share_105 rfl ?_
  refine V_if_eq (Y := m_X10_share) (pc := 107) (tgt := 119) dX10_share_107 (by decide +kernel) hf (fun hf => ?_) (fun hf => ?_)
  · exact V_sub [1, 2, 3, 4, 5, 6, 8] rfl (ok_X10_share_b119 k45 k57 hk45 hk57 x1 x2 x3 x4 x5 x7 M z  hf)
  · refine V_iload (Y := m_X10_share) (pc := 110) 0 dX10_share_110 rfl ?_
    refine V_if_eq (Y := m_X10_share) (pc := 112) (tgt := 119) dX10_share_112 (by decide +kernel) hf (fun hf => ?_) (fun hf => ?_)
    · exact V_sub [1, 2, 3, 4, 5, 6, 8] rfl (ok_X10_share_b119 k45 k57 hk45 hk57 x1 x2 x3 x4 x5 x7 M z  hf)
    · refine V_iconst (Y := m_X10_share) (pc := 115) (x := (1 : Int32)) dX10_share_115 (by decide +kernel) ?_
      refine V_goto (Y := m_X10_share) (pc := 116) (tgt := 120) dX10_share_116 (by decide +kernel) ?_
      exact V_sub [1, 2, 3, 4, 5, 6, 8] rfl (ok_X10_share_b120 k45 k57 hk45 hk57 x1 x2 x3 x4 x5 x7 (1 : Int32) M z  hf)
def f_X10_share_b98 (k45 : Int32 → Int32 → Int32 → Int32 → Int32 → Mem → Option (Int32 × Mem)) (k57 : Int32 → Int32 → Int32 → Int32 → Int32 → Int32 → Int32 → Mem → Option (Int32 × Mem)) (x1 : Int32) (x2 : Int32) (x3 : Int32) (x4 : Int32) (x5 : Int32) (x6 : Int32) (x7 : Int32) (M : Mem) : Option (Int32 × Mem) :=
  f_X10_share_b103 k45 k57 x1 x2 x3 x4 x5 x6 x7 (1 : Int32) M
set_option maxRecDepth 20000 in
set_option maxHeartbeats 4000000 in
theorem ok_X10_share_b98 {l : Launch} {g : Gam} {b : Nat} (k45 : Int32 → Int32 → Int32 → Int32 → Int32 → Mem → Option (Int32 × Mem)) (k57 : Int32 → Int32 → Int32 → Int32 → Int32 → Int32 → Int32 → Mem → Option (Int32 × Mem)) (hk45 : ∀ (x1 : Int32) (x2 : Int32) (x3 : Int32) (x4 : Int32) (x5 : Int32) (M : Mem) (z : Int32 × Mem), k45 x1 x2 x3 x4 x5 M = some z → V l g (wM b) m_X10_share 45 [(0, .ref (b + 0)), (1, .int x1), (2, .int x2), (3, .int x3), (4, .int x4), (5, .int x5)] [] M (some (.int z.1)) z.2) (hk57 : ∀ (x1 : Int32) (x2 : Int32) (x3 : Int32) (x4 : Int32) (x5 : Int32) (x6 : Int32) (x7 : Int32) (M : Mem) (z : Int32 × Mem), k57 x1 x2 x3 x4 x5 x6 x7 M = some z → V l g (wM b) m_X10_share 57 [(0, .ref (b + 0)), (1, .int x1), (2, .int x2), (3, .int x3), (4, .int x4), (5, .int x5), (6, .int x6), (7, .int x7)] [] M (some (.int z.1)) z.2) (x1 : Int32) (x2 : Int32) (x3 : Int32) (x4 : Int32) (x5 : Int32) (x6 : Int32) (x7 : Int32) (M : Mem) (z : Int32 × Mem)  (hf : f_X10_share_b98 k45 k57 x1 x2 x3 x4 x5 x6 x7 M = some z) : V l g (wM b) m_X10_share 98 [(0, .ref (b + 0)), (1, .int x1), (2, .int x2), (3, .int x3), (4, .int x4), (5, .int x5), (6, .int x6), (7, .int x7)] [] M (some (.int z.1)) z.2 := by
  unfold f_X10_share_b98 at hf
  refine V_iconst (Y := m_X10_share) (pc := 98) (x := (1 : Int32)) dX10_share_98 (by decide +kernel) ?_
  refine V_goto (Y := m_X10_share) (pc := 99) (tgt := 103) dX10_share_99 (by decide +kernel) ?_
  exact V_sub [0, 1, 2, 3, 4, 5, 6, 7] rfl (ok_X10_share_b103 k45 k57 hk45 hk57 x1 x2 x3 x4 x5 x6 x7 (1 : Int32) M z  hf)
def f_X10_share_b57 (k45 : Int32 → Int32 → Int32 → Int32 → Int32 → Mem → Option (Int32 × Mem)) : Nat → Int32 → Int32 → Int32 → Int32 → Int32 → Int32 → Int32 → Mem → Option (Int32 × Mem)
  | 0, _, _, _, _, _, _, _, _ => none
  | n + 1, x1, x2, x3, x4, x5, x6, x7, M =>
    if (9 : Int32) ≤ x7 then
      f_X10_share_b128 k45 x1 x2 x3 x4 x5 x6 M
    else
      if ixb ((20 : Int32) + x7) 3300 = true then
      if (M 1 (ix ((20 : Int32) + x7))) < 0 then
        f_X10_share_b98 k45 (f_X10_share_b57 k45 n) x1 x2 x3 x4 x5 x6 x7 M
      else
        (f_X10_drawn (M 1 (ix ((20 : Int32) + x7))) x2 M).bind fun q2 =>
        (f_X10_size (q2.1 - (M 1 (ix ((20 : Int32) + x7)))) q2.2).bind fun q3 =>
        if x3 < q3.1 then
          f_X10_share_b103 k45 (f_X10_share_b57 k45 n) x1 x2 x3 x4 x5 x6 x7 (0 : Int32) q3.2
        else
          f_X10_share_b98 k45 (f_X10_share_b57 k45 n) x1 x2 x3 x4 x5 x6 x7 q3.2
      else none
set_option maxRecDepth 20000 in
set_option maxHeartbeats 4000000 in
theorem ok_X10_share_b57 {l : Launch} {g : Gam} {b : Nat} (k45 : Int32 → Int32 → Int32 → Int32 → Int32 → Mem → Option (Int32 × Mem)) (hk45 : ∀ (x1 : Int32) (x2 : Int32) (x3 : Int32) (x4 : Int32) (x5 : Int32) (M : Mem) (z : Int32 × Mem), k45 x1 x2 x3 x4 x5 M = some z → V l g (wM b) m_X10_share 45 [(0, .ref (b + 0)), (1, .int x1), (2, .int x2), (3, .int x3), (4, .int x4), (5, .int x5)] [] M (some (.int z.1)) z.2) : ∀ (n : Nat) (x1 : Int32) (x2 : Int32) (x3 : Int32) (x4 : Int32) (x5 : Int32) (x6 : Int32) (x7 : Int32) (M : Mem) (z : Int32 × Mem), f_X10_share_b57 k45 n x1 x2 x3 x4 x5 x6 x7 M = some z → V l g (wM b) m_X10_share 57 [(0, .ref (b + 0)), (1, .int x1), (2, .int x2), (3, .int x3), (4, .int x4), (5, .int x5), (6, .int x6), (7, .int x7)] [] M (some (.int z.1)) z.2 := by
  intro n
  induction n with
  | zero =>
    intro x1 x2 x3 x4 x5 x6 x7 M z  hf
    cases hf
  | succ n ih =>
    intro x1 x2 x3 x4 x5 x6 x7 M z  hf
    rw [f_X10_share_b57] at hf
    refine V_iload (Y := m_X10_share) (pc := 57) 7 dX10_share_57 rfl ?_
    refine V_bipush (Y := m_X10_share) (pc := 59) (x := (9 : Int32)) dX10_share_59 (by decide +kernel) ?_
    refine V_icmp_ge (Y := m_X10_share) (pc := 61) (tgt := 128) dX10_share_61 (by decide +kernel) hf (fun hf => ?_) (fun hf => ?_)
    · exact V_sub [0, 1, 2, 3, 4, 5, 6] rfl (ok_X10_share_b128 k45 hk45 x1 x2 x3 x4 x5 x6 M z  hf)
    · refine V_aload_n (Y := m_X10_share) (pc := 64) 0 dX10_share_64 rfl ?_
      refine V_grL (Y := m_X10_share) (pc := 65) (x := 1) 0 kX10 sM_0 (by decide +kernel) rfl rfl tw_1070 dX10_share_65 ?_
      refine V_bipush (Y := m_X10_share) (pc := 68) (x := (20 : Int32)) dX10_share_68 (by decide +kernel) ?_
      refine V_iload (Y := m_X10_share) (pc := 70) 7 dX10_share_70 rfl ?_
      refine V_iadd (Y := m_X10_share) (pc := 72) dX10_share_72 ?_
      obtain ⟨hi1, hf⟩ := g_if hf
      refine V_iald (Y := m_X10_share) (pc := 73) sM_1 hi1 dX10_share_73 ?_
      refine V_istore (Y := m_X10_share) (pc := 74) [(8, .int (M 1 (ix ((20 : Int32) + x7)))), (0, .ref (b + 0)), (1, .int x1), (2, .int x2), (3, .int x3), (4, .int x4), (5, .int x5), (6, .int x6), (7, .int x7)] dX10_share_74 (by decide +kernel) rfl ?_
      refine V_iload (Y := m_X10_share) (pc := 76) 0 dX10_share_76 rfl ?_
      refine V_if_lt (Y := m_X10_share) (pc := 78) (tgt := 98) dX10_share_78 (by decide +kernel) hf (fun hf => ?_) (fun hf => ?_)
      · exact V_sub [1, 2, 3, 4, 5, 6, 7, 8] rfl (ok_X10_share_b98 k45 (f_X10_share_b57 k45 n) hk45 ih x1 x2 x3 x4 x5 x6 x7 M z  hf)
      · refine V_aload_n (Y := m_X10_share) (pc := 81) 1 dX10_share_81 rfl ?_
        refine V_iload (Y := m_X10_share) (pc := 82) 0 dX10_share_82 rfl ?_
        refine V_iload_n (Y := m_X10_share) (pc := 84) 3 dX10_share_84 rfl ?_
        obtain ⟨q2, hq2, hf⟩ := g_bind hf
        refine V_cVi (Y := m_X10_share) (pc := 85) (As := [.int (M 1 (ix ((20 : Int32) + x7))), .int x2]) yf_X10_drawn kX10 sM_0 (by decide +kernel) (ok_X10_drawn (M 1 (ix ((20 : Int32) + x7))) x2 M _  hq2) tw_1592 tw_61 tw_1590 rfl rfl (Nat.le_of_ble_eq_true rfl) dX10_share_85 ?_
        refine V_iload (Y := m_X10_share) (pc := 88) 0 dX10_share_88 rfl ?_
        refine V_isub (Y := m_X10_share) (pc := 90) dX10_share_90 ?_
        obtain ⟨q3, hq3, hf⟩ := g_bind hf
        refine V_cSi (Y := m_X10_share) (pc := 91) (As := [.int (q2.1 - (M 1 (ix ((20 : Int32) + x7))))]) yf_X10_size (by decide +kernel) (ok_X10_size (q2.1 - (M 1 (ix ((20 : Int32) + x7)))) q2.2 _  hq3) tw_1476 tw_1475 rfl rfl (Nat.le_of_ble_eq_true rfl) dX10_share_91 ?_
        refine V_iload_n (Y := m_X10_share) (pc := 94) 4 dX10_share_94 rfl ?_
        refine V_icmp_gt (Y := m_X10_share) (pc := 95) (tgt := 102) dX10_share_95 (by decide +kernel) hf (fun hf => ?_) (fun hf => ?_)
        · refine V_iconst (Y := m_X10_share) (pc := 102) (x := (0 : Int32)) dX10_share_102 (by decide +kernel) ?_
          exact V_sub [1, 2, 3, 4, 5, 6, 7, 8] rfl (ok_X10_share_b103 k45 (f_X10_share_b57 k45 n) hk45 ih x1 x2 x3 x4 x5 x6 x7 (0 : Int32) q3.2 z  hf)
        · exact V_sub [1, 2, 3, 4, 5, 6, 7, 8] rfl (ok_X10_share_b98 k45 (f_X10_share_b57 k45 n) hk45 ih x1 x2 x3 x4 x5 x6 x7 q3.2 z  hf)
def f_X10_share_b45  : Nat → Int32 → Int32 → Int32 → Int32 → Int32 → Mem → Option (Int32 × Mem)
  | 0, _, _, _, _, _, _ => none
  | n + 1, x1, x2, x3, x4, x5, M =>
    if x1 ≤ x5 then
      some (x4, M)
    else
      f_X10_share_b57 (f_X10_share_b45  n) FU x1 x2 x3 x4 x5 (1 : Int32) (0 : Int32) M
set_option maxRecDepth 20000 in
set_option maxHeartbeats 4000000 in
theorem ok_X10_share_b45 {l : Launch} {g : Gam} {b : Nat}   : ∀ (n : Nat) (x1 : Int32) (x2 : Int32) (x3 : Int32) (x4 : Int32) (x5 : Int32) (M : Mem) (z : Int32 × Mem), f_X10_share_b45  n x1 x2 x3 x4 x5 M = some z → V l g (wM b) m_X10_share 45 [(0, .ref (b + 0)), (1, .int x1), (2, .int x2), (3, .int x3), (4, .int x4), (5, .int x5)] [] M (some (.int z.1)) z.2 := by
  intro n
  induction n with
  | zero =>
    intro x1 x2 x3 x4 x5 M z  hf
    cases hf
  | succ n ih =>
    intro x1 x2 x3 x4 x5 M z  hf
    rw [f_X10_share_b45] at hf
    refine V_iload (Y := m_X10_share) (pc := 45) 5 dX10_share_45 rfl ?_
    refine V_iload_n (Y := m_X10_share) (pc := 47) 1 dX10_share_47 rfl ?_
    refine V_icmp_ge (Y := m_X10_share) (pc := 48) (tgt := 149) dX10_share_48 (by decide +kernel) hf (fun hf => ?_) (fun hf => ?_)
    · refine V_iload (Y := m_X10_share) (pc := 149) 4 dX10_share_149 rfl ?_
      obtain rfl := Option.some.inj hf
      exact V_iret (Y := m_X10_share) rfl dX10_share_151
    · refine V_iconst (Y := m_X10_share) (pc := 51) (x := (1 : Int32)) dX10_share_51 (by decide +kernel) ?_
      refine V_istore (Y := m_X10_share) (pc := 52) [(6, .int (1 : Int32)), (0, .ref (b + 0)), (1, .int x1), (2, .int x2), (3, .int x3), (4, .int x4), (5, .int x5)] dX10_share_52 (by decide +kernel) rfl ?_
      refine V_iconst (Y := m_X10_share) (pc := 54) (x := (0 : Int32)) dX10_share_54 (by decide +kernel) ?_
      refine V_istore (Y := m_X10_share) (pc := 55) [(7, .int (0 : Int32)), (6, .int (1 : Int32)), (0, .ref (b + 0)), (1, .int x1), (2, .int x2), (3, .int x3), (4, .int x4), (5, .int x5)] dX10_share_55 (by decide +kernel) rfl ?_
      exact V_sub [2, 3, 4, 5, 6, 7, 1, 0] rfl (ok_X10_share_b57 (f_X10_share_b45  n) ih FU x1 x2 x3 x4 x5 (1 : Int32) (0 : Int32) M z  hf)
def f_X10_share_b0  (x1 : Int32) (x2 : Int32) (x3 : Int32) (M : Mem) : Option (Int32 × Mem) :=
  (f_X10_isIn x1.toInt64 (1 : Int64) (100 : Int64) M).bind fun q1 =>
  if q1.1 = 0 then
    some ((-1000000001 : Int32), q1.2)
  else
    (f_X10_isIn x2.toInt64 (0 : Int64) (200 : Int64) q1.2).bind fun q2 =>
    if q2.1 = 0 then
      some ((-1000000001 : Int32), q2.2)
    else
      (f_X10_isIn x3.toInt64 (0 : Int64) (200 : Int64) q2.2).bind fun q3 =>
      if q3.1 = 0 then
        some ((-1000000001 : Int32), q3.2)
      else
        f_X10_share_b45  FU x1 x2 x3 (0 : Int32) (0 : Int32) q3.2
set_option maxRecDepth 20000 in
set_option maxHeartbeats 4000000 in
theorem ok_X10_share_b0 {l : Launch} {g : Gam} {b : Nat}   (x1 : Int32) (x2 : Int32) (x3 : Int32) (M : Mem) (z : Int32 × Mem)  (hf : f_X10_share_b0 x1 x2 x3 M = some z) : V l g (wM b) m_X10_share 0 [(0, .ref (b + 0)), (1, .int x1), (2, .int x2), (3, .int x3)] [] M (some (.int z.1)) z.2 := by
  unfold f_X10_share_b0 at hf
  refine V_iload_n (Y := m_X10_share) (pc := 0) 1 dX10_share_0 rfl ?_
  refine V_i2l (Y := m_X10_share) (pc := 1) dX10_share_1 ?_
  refine V_lconst (Y := m_X10_share) (pc := 2) (x := (1 : Int64)) dX10_share_2 (by decide +kernel) ?_
  refine V_ldc2 (Y := m_X10_share) (pc := 3) (x := (100 : Int64)) dX10_share_3 tw_1589 ?_
  obtain ⟨q1, hq1, hf⟩ := g_bind hf
  refine V_cSi (Y := m_X10_share) (pc := 6) (As := [.long x1.toInt64, .long (1 : Int64), .long (100 : Int64)]) yf_X10_isIn (by decide +kernel) (ok_X10_isIn x1.toInt64 (1 : Int64) (100 : Int64) M _  hq1) tw_1218 tw_1217 rfl rfl (Nat.le_of_ble_eq_true rfl) dX10_share_6 ?_
  refine V_if_eq (Y := m_X10_share) (pc := 9) (tgt := 36) dX10_share_9 (by decide +kernel) hf (fun hf => ?_) (fun hf => ?_)
  · refine V_ldc (Y := m_X10_share) (pc := 36) (x := (-1000000001 : Int32)) dX10_share_36 tw_1224 ?_
    obtain rfl := Option.some.inj hf
    exact V_iret (Y := m_X10_share) rfl dX10_share_38
  · refine V_iload_n (Y := m_X10_share) (pc := 12) 2 dX10_share_12 rfl ?_
    refine V_i2l (Y := m_X10_share) (pc := 13) dX10_share_13 ?_
    refine V_lconst (Y := m_X10_share) (pc := 14) (x := (0 : Int64)) dX10_share_14 (by decide +kernel) ?_
    refine V_ldc2 (Y := m_X10_share) (pc := 15) (x := (200 : Int64)) dX10_share_15 tw_1515 ?_
    obtain ⟨q2, hq2, hf⟩ := g_bind hf
    refine V_cSi (Y := m_X10_share) (pc := 18) (As := [.long x2.toInt64, .long (0 : Int64), .long (200 : Int64)]) yf_X10_isIn (by decide +kernel) (ok_X10_isIn x2.toInt64 (0 : Int64) (200 : Int64) q1.2 _  hq2) tw_1218 tw_1217 rfl rfl (Nat.le_of_ble_eq_true rfl) dX10_share_18 ?_
    refine V_if_eq (Y := m_X10_share) (pc := 21) (tgt := 36) dX10_share_21 (by decide +kernel) hf (fun hf => ?_) (fun hf => ?_)
    · refine V_ldc (Y := m_X10_share) (pc := 36) (x := (-1000000001 : Int32)) dX10_share_36 tw_1224 ?_
      obtain rfl := Option.some.inj hf
      exact V_iret (Y := m_X10_share) rfl dX10_share_38
    · refine V_iload_n (Y := m_X10_share) (pc := 24) 3 dX10_share_24 rfl ?_
      refine V_i2l (Y := m_X10_share) (pc := 25) dX10_share_25 ?_
      refine V_lconst (Y := m_X10_share) (pc := 26) (x := (0 : Int64)) dX10_share_26 (by decide +kernel) ?_
      refine V_ldc2 (Y := m_X10_share) (pc := 27) (x := (200 : Int64)) dX10_share_27 tw_1515 ?_
      obtain ⟨q3, hq3, hf⟩ := g_bind hf
      refine V_cSi (Y := m_X10_share) (pc := 30) (As := [.long x3.toInt64, .long (0 : Int64), .long (200 : Int64)]) yf_X10_isIn (by decide +kernel) (ok_X10_isIn x3.toInt64 (0 : Int64) (200 : Int64) q2.2 _  hq3) tw_1218 tw_1217 rfl rfl (Nat.le_of_ble_eq_true rfl) dX10_share_30 ?_
      refine V_if_ne (Y := m_X10_share) (pc := 33) (tgt := 39) dX10_share_33 (by decide +kernel) hf (fun hf => ?_) (fun hf => ?_)
      · refine V_iconst (Y := m_X10_share) (pc := 39) (x := (0 : Int32)) dX10_share_39 (by decide +kernel) ?_
        refine V_istore (Y := m_X10_share) (pc := 40) [(4, .int (0 : Int32)), (0, .ref (b + 0)), (1, .int x1), (2, .int x2), (3, .int x3)] dX10_share_40 (by decide +kernel) rfl ?_
        refine V_iconst (Y := m_X10_share) (pc := 42) (x := (0 : Int32)) dX10_share_42 (by decide +kernel) ?_
        refine V_istore (Y := m_X10_share) (pc := 43) [(5, .int (0 : Int32)), (4, .int (0 : Int32)), (0, .ref (b + 0)), (1, .int x1), (2, .int x2), (3, .int x3)] dX10_share_43 (by decide +kernel) rfl ?_
        exact V_sub [2, 3, 4, 5, 1, 0] rfl (ok_X10_share_b45  FU x1 x2 x3 (0 : Int32) (0 : Int32) q3.2 z  hf)
      · refine V_ldc (Y := m_X10_share) (pc := 36) (x := (-1000000001 : Int32)) dX10_share_36 tw_1224 ?_
        obtain rfl := Option.some.inj hf
        exact V_iret (Y := m_X10_share) rfl dX10_share_38
def f_X10_share (x1 : Int32) (x2 : Int32) (x3 : Int32) (M : Mem) : Option (Int32 × Mem) := f_X10_share_b0 x1 x2 x3 M
set_option maxRecDepth 20000 in
set_option maxHeartbeats 4000000 in
theorem ok_X10_share {l : Launch} {g : Gam} {b : Nat} : ∀ (x1 : Int32) (x2 : Int32) (x3 : Int32) (M : Mem) (z : Int32 × Mem), f_X10_share x1 x2 x3 M = some z → Cn l g (wM b) m_X10_share [.ref (b + 0), .int x1, .int x2, .int x3] M (some (.int z.1)) z.2 := fun x1 x2 x3 M z  hf => Cn_of (by decide +kernel) (Nat.le_of_ble_eq_true rfl) (V_sub [0, 1, 2, 3] rfl (ok_X10_share_b0 x1 x2 x3 M z  hf))

abbrev m_X10_sheet : Mth := (yX10_sheet, cX10_sheet, 5, some .int, 3)
theorem yf_X10_sheet : YF m_X10_sheet 3 := ⟨tw_1598, tw_75, by decide +kernel, by decide +kernel⟩
def f_X10_sheet_b95  (x1 : Int32) (M : Mem) : Option (Int32 × Mem) :=
  if ixb x1 4 = true then
  some ((M 5 (ix x1)), M)
  else none
set_option maxRecDepth 20000 in
set_option maxHeartbeats 4000000 in
theorem ok_X10_sheet_b95 {l : Launch} {g : Gam} {b : Nat}   (x1 : Int32) (M : Mem) (z : Int32 × Mem)  (hf : f_X10_sheet_b95 x1 M = some z) : V l g (wM b) m_X10_sheet 95 [(0, .ref (b + 0)), (1, .int x1)] [] M (some (.int z.1)) z.2 := by
  unfold f_X10_sheet_b95 at hf
  refine V_aload_n (Y := m_X10_sheet) (pc := 95) 0 dX10_sheet_95 rfl ?_
  refine V_grL (Y := m_X10_sheet) (pc := 96) (x := 5) 5 kX10 sM_0 (by decide +kernel) rfl rfl tw_1075 dX10_sheet_96 ?_
  refine V_iload_n (Y := m_X10_sheet) (pc := 99) 1 dX10_sheet_99 rfl ?_
  obtain ⟨hi1, hf⟩ := g_if hf
  refine V_iald (Y := m_X10_sheet) (pc := 100) sM_5 hi1 dX10_sheet_100 ?_
  obtain rfl := Option.some.inj hf
  exact V_iret (Y := m_X10_sheet) rfl dX10_sheet_101
def f_X10_sheet_b69  : Nat → Int32 → Int32 → Mem → Option (Int32 × Mem)
  | 0, _, _, _ => none
  | n + 1, x1, x4, M =>
    if (24 : Int32) ≤ x4 then
      f_X10_sheet_b95  x1 M
    else
      if ixb (((24 : Int32) * x1) + x4) 96 = true then
      f_X10_sheet_b69  n x1 (x4 + (1 : Int32)) (mset M 6 (ix (((24 : Int32) * x1) + x4)) (0 : Int32))
      else none
set_option maxRecDepth 20000 in
set_option maxHeartbeats 4000000 in
theorem ok_X10_sheet_b69 {l : Launch} {g : Gam} {b : Nat}   : ∀ (n : Nat) (x1 : Int32) (x4 : Int32) (M : Mem) (z : Int32 × Mem), f_X10_sheet_b69  n x1 x4 M = some z → V l g (wM b) m_X10_sheet 69 [(0, .ref (b + 0)), (1, .int x1), (4, .int x4)] [] M (some (.int z.1)) z.2 := by
  intro n
  induction n with
  | zero =>
    intro x1 x4 M z  hf
    cases hf
  | succ n ih =>
    intro x1 x4 M z  hf
    rw [f_X10_sheet_b69] at hf
    refine V_iload (Y := m_X10_sheet) (pc := 69) 2 dX10_sheet_69 rfl ?_
    refine V_bipush (Y := m_X10_sheet) (pc := 71) (x := (24 : Int32)) dX10_sheet_71 (by decide +kernel) ?_
    refine V_icmp_ge (Y := m_X10_sheet) (pc := 73) (tgt := 95) dX10_sheet_73 (by decide +kernel) hf (fun hf => ?_) (fun hf => ?_)
    · exact V_sub [0, 1] rfl (ok_X10_sheet_b95  x1 M z  hf)
    · refine V_aload_n (Y := m_X10_sheet) (pc := 76) 0 dX10_sheet_76 rfl ?_
      refine V_grL (Y := m_X10_sheet) (pc := 77) (x := 6) 6 kX10 sM_0 (by decide +kernel) rfl rfl tw_1076 dX10_sheet_77 ?_
      refine V_bipush (Y := m_X10_sheet) (pc := 80) (x := (24 : Int32)) dX10_sheet_80 (by decide +kernel) ?_
      refine V_iload_n (Y := m_X10_sheet) (pc := 82) 1 dX10_sheet_82 rfl ?_
      refine V_imul (Y := m_X10_sheet) (pc := 83) dX10_sheet_83 ?_
      refine V_iload (Y := m_X10_sheet) (pc := 84) 2 dX10_sheet_84 rfl ?_
      refine V_iadd (Y := m_X10_sheet) (pc := 86) dX10_sheet_86 ?_
      refine V_iconst (Y := m_X10_sheet) (pc := 87) (x := (0 : Int32)) dX10_sheet_87 (by decide +kernel) ?_
      obtain ⟨hi1, hf⟩ := g_if hf
      refine V_iast (Y := m_X10_sheet) (pc := 88) sM_6 hi1 dX10_sheet_88 ?_
      refine V_iinc (Y := m_X10_sheet) (pc := 89) (y := (x4 + (1 : Int32))) 2 [(4, .int (x4 + (1 : Int32))), (0, .ref (b + 0)), (1, .int x1)] dX10_sheet_89 rfl rfl (by decide +kernel) rfl ?_
      refine V_goto (Y := m_X10_sheet) (pc := 92) (tgt := 69) dX10_sheet_92 (by decide +kernel) ?_
      exact V_sub [1, 2, 0] rfl (ih x1 (x4 + (1 : Int32)) (mset M 6 (ix (((24 : Int32) * x1) + x4)) (0 : Int32)) z  hf)
def f_X10_sheet_b65  (x1 : Int32) (s0 : Int32) (s1 : Int32) (M : Mem) : Option (Int32 × Mem) :=
  if ixb s1 4 = true then
  f_X10_sheet_b69  FU x1 (0 : Int32) (mset M 5 (ix s1) s0)
  else none
set_option maxRecDepth 20000 in
set_option maxHeartbeats 4000000 in
theorem ok_X10_sheet_b65 {l : Launch} {g : Gam} {b : Nat}   (x1 : Int32) (s0 : Int32) (s1 : Int32) (M : Mem) (z : Int32 × Mem)  (hf : f_X10_sheet_b65 x1 s0 s1 M = some z) : V l g (wM b) m_X10_sheet 65 [(0, .ref (b + 0)), (1, .int x1)] [.int s0, .int s1, .ref (b + 5)] M (some (.int z.1)) z.2 := by
  unfold f_X10_sheet_b65 at hf
  obtain ⟨hi1, hf⟩ := g_if hf
  refine V_iast (Y := m_X10_sheet) (pc := 65) sM_5 hi1 dX10_sheet_65 ?_
  refine V_iconst (Y := m_X10_sheet) (pc := 66) (x := (0 : Int32)) dX10_sheet_66 (by decide +kernel) ?_
  refine V_istore (Y := m_X10_sheet) (pc := 67) [(4, .int (0 : Int32)), (0, .ref (b + 0)), (1, .int x1)] dX10_sheet_67 (by decide +kernel) rfl ?_
  exact V_sub [1, 2, 0] rfl (ok_X10_sheet_b69  FU x1 (0 : Int32) (mset M 5 (ix s1) s0) z  hf)
def f_X10_sheet_b44  (x1 : Int32) (x2 : Int32) (x3 : Int32) (M : Mem) : Option (Int32 × Mem) :=
  if ixb x1 4 = true then
  if 0 ≤ x2 then
    f_X10_sheet_b65  x1 x3 x1 (mset M 4 (ix x1) x2)
  else
    f_X10_sheet_b65  x1 (0 : Int32) x1 (mset M 4 (ix x1) x2)
  else none
set_option maxRecDepth 20000 in
set_option maxHeartbeats 4000000 in
theorem ok_X10_sheet_b44 {l : Launch} {g : Gam} {b : Nat}   (x1 : Int32) (x2 : Int32) (x3 : Int32) (M : Mem) (z : Int32 × Mem)  (hf : f_X10_sheet_b44 x1 x2 x3 M = some z) : V l g (wM b) m_X10_sheet 44 [(0, .ref (b + 0)), (1, .int x1), (2, .int x2), (3, .int x3)] [] M (some (.int z.1)) z.2 := by
  unfold f_X10_sheet_b44 at hf
  refine V_aload_n (Y := m_X10_sheet) (pc := 44) 0 dX10_sheet_44 rfl ?_
  refine V_grL (Y := m_X10_sheet) (pc := 45) (x := 4) 4 kX10 sM_0 (by decide +kernel) rfl rfl tw_1074 dX10_sheet_45 ?_
  refine V_iload_n (Y := m_X10_sheet) (pc := 48) 1 dX10_sheet_48 rfl ?_
  refine V_iload_n (Y := m_X10_sheet) (pc := 49) 2 dX10_sheet_49 rfl ?_
  obtain ⟨hi1, hf⟩ := g_if hf
  refine V_iast (Y := m_X10_sheet) (pc := 50) sM_4 hi1 dX10_sheet_50 ?_
  refine V_aload_n (Y := m_X10_sheet) (pc := 51) 0 dX10_sheet_51 rfl ?_
  refine V_grL (Y := m_X10_sheet) (pc := 52) (x := 5) 5 kX10 sM_0 (by decide +kernel) rfl rfl tw_1075 dX10_sheet_52 ?_
  refine V_iload_n (Y := m_X10_sheet) (pc := 55) 1 dX10_sheet_55 rfl ?_
  refine V_iload_n (Y := m_X10_sheet) (pc := 56) 2 dX10_sheet_56 rfl ?_
  refine V_if_ge (Y := m_X10_sheet) (pc := 57) (tgt := 64) dX10_sheet_57 (by decide +kernel) hf (fun hf => ?_) (fun hf => ?_)
  · refine V_iload_n (Y := m_X10_sheet) (pc := 64) 3 dX10_sheet_64 rfl ?_
    exact V_sub [0, 1] rfl (ok_X10_sheet_b65  x1 x3 x1 (mset M 4 (ix x1) x2) z  hf)
  · refine V_iconst (Y := m_X10_sheet) (pc := 60) (x := (0 : Int32)) dX10_sheet_60 (by decide +kernel) ?_
    refine V_goto (Y := m_X10_sheet) (pc := 61) (tgt := 65) dX10_sheet_61 (by decide +kernel) ?_
    exact V_sub [0, 1] rfl (ok_X10_sheet_b65  x1 (0 : Int32) x1 (mset M 4 (ix x1) x2) z  hf)
def f_X10_sheet_b32  (x1 : Int32) (x2 : Int32) (x3 : Int32) (M : Mem) : Option (Int32 × Mem) :=
  if x2 < 0 then
    f_X10_sheet_b44  x1 x2 x3 M
  else
    if 0 ≤ x3 then
      f_X10_sheet_b44  x1 x2 x3 M
    else
      some ((-1000000014 : Int32), M)
set_option maxRecDepth 20000 in
set_option maxHeartbeats 4000000 in
theorem ok_X10_sheet_b32 {l : Launch} {g : Gam} {b : Nat}   (x1 : Int32) (x2 : Int32) (x3 : Int32) (M : Mem) (z : Int32 × Mem)  (hf : f_X10_sheet_b32 x1 x2 x3 M = some z) : V l g (wM b) m_X10_sheet 32 [(0, .ref (b + 0)), (1, .int x1), (2, .int x2), (3, .int x3)] [] M (some (.int z.1)) z.2 := by
  unfold f_X10_sheet_b32 at hf
  refine V_iload_n (Y := m_X10_sheet) (pc := 32) 2 dX10_sheet_32 rfl ?_
  refine V_if_lt (Y := m_X10_sheet) (pc := 33) (tgt := 44) dX10_sheet_33 (by decide +kernel) hf (fun hf => ?_) (fun hf => ?_)
  · exact V_sub [0, 1, 2, 3] rfl (ok_X10_sheet_b44  x1 x2 x3 M z  hf)
  · refine V_iload_n (Y := m_X10_sheet) (pc := 36) 3 dX10_sheet_36 rfl ?_
    refine V_if_ge (Y := m_X10_sheet) (pc := 37) (tgt := 44) dX10_sheet_37 (by decide +kernel) hf (fun hf => ?_) (fun hf => ?_)
    · exact V_sub [0, 1, 2, 3] rfl (ok_X10_sheet_b44  x1 x2 x3 M z  hf)
    · refine V_ldcw (Y := m_X10_sheet) (pc := 40) (x := (-1000000014 : Int32)) dX10_sheet_40 tw_1599 ?_
      obtain rfl := Option.some.inj hf
      exact V_iret (Y := m_X10_sheet) rfl dX10_sheet_43
def f_X10_sheet_b0  (x1 : Int32) (x2 : Int32) (x3 : Int32) (M : Mem) : Option (Int32 × Mem) :=
  (f_X10_isSheet x1 M).bind fun q1 =>
  if q1.1 = 0 then
    some ((-1000000001 : Int32), q1.2)
  else
    (f_X10_isIn x2.toInt64 (-1 : Int64) (1 : Int64) q1.2).bind fun q2 =>
    if q2.1 = 0 then
      some ((-1000000001 : Int32), q2.2)
    else
      if x2 < 0 then
        f_X10_sheet_b32  x1 x2 x3 q2.2
      else
        if x3 ≤ (24 : Int32) then
          f_X10_sheet_b32  x1 x2 x3 q2.2
        else
          some ((-1000000001 : Int32), q2.2)
set_option maxRecDepth 20000 in
set_option maxHeartbeats 4000000 in
theorem ok_X10_sheet_b0 {l : Launch} {g : Gam} {b : Nat}   (x1 : Int32) (x2 : Int32) (x3 : Int32) (M : Mem) (z : Int32 × Mem)  (hf : f_X10_sheet_b0 x1 x2 x3 M = some z) : V l g (wM b) m_X10_sheet 0 [(0, .ref (b + 0)), (1, .int x1), (2, .int x2), (3, .int x3)] [] M (some (.int z.1)) z.2 := by
  unfold f_X10_sheet_b0 at hf
  refine V_iload_n (Y := m_X10_sheet) (pc := 0) 1 dX10_sheet_0 rfl ?_
  obtain ⟨q1, hq1, hf⟩ := g_bind hf
  refine V_cSi (Y := m_X10_sheet) (pc := 1) (As := [.int x1]) yf_X10_isSheet (by decide +kernel) (ok_X10_isSheet x1 M _  hq1) tw_1537 tw_1536 rfl rfl (Nat.le_of_ble_eq_true rfl) dX10_sheet_1 ?_
  refine V_if_eq (Y := m_X10_sheet) (pc := 4) (tgt := 29) dX10_sheet_4 (by decide +kernel) hf (fun hf => ?_) (fun hf => ?_)
  · refine V_ldc (Y := m_X10_sheet) (pc := 29) (x := (-1000000001 : Int32)) dX10_sheet_29 tw_1224 ?_
    obtain rfl := Option.some.inj hf
    exact V_iret (Y := m_X10_sheet) rfl dX10_sheet_31
  · refine V_iload_n (Y := m_X10_sheet) (pc := 7) 2 dX10_sheet_7 rfl ?_
    refine V_i2l (Y := m_X10_sheet) (pc := 8) dX10_sheet_8 ?_
    refine V_ldc2 (Y := m_X10_sheet) (pc := 9) (x := (-1 : Int64)) dX10_sheet_9 tw_1307 ?_
    refine V_lconst (Y := m_X10_sheet) (pc := 12) (x := (1 : Int64)) dX10_sheet_12 (by decide +kernel) ?_
    obtain ⟨q2, hq2, hf⟩ := g_bind hf
    refine V_cSi (Y := m_X10_sheet) (pc := 13) (As := [.long x2.toInt64, .long (-1 : Int64), .long (1 : Int64)]) yf_X10_isIn (by decide +kernel) (ok_X10_isIn x2.toInt64 (-1 : Int64) (1 : Int64) q1.2 _  hq2) tw_1218 tw_1217 rfl rfl (Nat.le_of_ble_eq_true rfl) dX10_sheet_13 ?_
    refine V_if_eq (Y := m_X10_sheet) (pc := 16) (tgt := 29) dX10_sheet_16 (by decide +kernel) hf (fun hf => ?_) (fun hf => ?_)
    · refine V_ldc (Y := m_X10_sheet) (pc := 29) (x := (-1000000001 : Int32)) dX10_sheet_29 tw_1224 ?_
      obtain rfl := Option.some.inj hf
      exact V_iret (Y := m_X10_sheet) rfl dX10_sheet_31
    · refine V_iload_n (Y := m_X10_sheet) (pc := 19) 2 dX10_sheet_19 rfl ?_
      refine V_if_lt (Y := m_X10_sheet) (pc := 20) (tgt := 32) dX10_sheet_20 (by decide +kernel) hf (fun hf => ?_) (fun hf => ?_)
      · exact V_sub [0, 1, 2, 3] rfl (ok_X10_sheet_b32  x1 x2 x3 q2.2 z  hf)
      · refine V_iload_n (Y := m_X10_sheet) (pc := 23) 3 dX10_sheet_23 rfl ?_
        refine V_bipush (Y := m_X10_sheet) (pc := 24) (x := (24 : Int32)) dX10_sheet_24 (by decide +kernel) ?_
        refine V_icmp_le (Y := m_X10_sheet) (pc := 26) (tgt := 32) dX10_sheet_26 (by decide +kernel) hf (fun hf => ?_) (fun hf => ?_)
        · exact V_sub [0, 1, 2, 3] rfl (ok_X10_sheet_b32  x1 x2 x3 q2.2 z  hf)
        · refine V_ldc (Y := m_X10_sheet) (pc := 29) (x := (-1000000001 : Int32)) dX10_sheet_29 tw_1224 ?_
          obtain rfl := Option.some.inj hf
          exact V_iret (Y := m_X10_sheet) rfl dX10_sheet_31
def f_X10_sheet (x1 : Int32) (x2 : Int32) (x3 : Int32) (M : Mem) : Option (Int32 × Mem) := f_X10_sheet_b0 x1 x2 x3 M
set_option maxRecDepth 20000 in
set_option maxHeartbeats 4000000 in
theorem ok_X10_sheet {l : Launch} {g : Gam} {b : Nat} : ∀ (x1 : Int32) (x2 : Int32) (x3 : Int32) (M : Mem) (z : Int32 × Mem), f_X10_sheet x1 x2 x3 M = some z → Cn l g (wM b) m_X10_sheet [.ref (b + 0), .int x1, .int x2, .int x3] M (some (.int z.1)) z.2 := fun x1 x2 x3 M z  hf => Cn_of (by decide +kernel) (Nat.le_of_ble_eq_true rfl) (V_sub [0, 1, 2, 3] rfl (ok_X10_sheet_b0 x1 x2 x3 M z  hf))

abbrev m_X10_write : Mth := (yX10_write, cX10_write, 4, some .int, 3)
theorem yf_X10_write : YF m_X10_write 3 := ⟨tw_1603, tw_75, by decide +kernel, by decide +kernel⟩
def f_X10_write_b78  (x1 : Int32) (x2 : Int32) (x3 : Int32) (M : Mem) : Option (Int32 × Mem) :=
  if ixb (((24 : Int32) * x1) + x2) 96 = true then
  some ((1 : Int32), (mset M 6 (ix (((24 : Int32) * x1) + x2)) x3))
  else none
set_option maxRecDepth 20000 in
set_option maxHeartbeats 4000000 in
theorem ok_X10_write_b78 {l : Launch} {g : Gam} {b : Nat}   (x1 : Int32) (x2 : Int32) (x3 : Int32) (M : Mem) (z : Int32 × Mem)  (hf : f_X10_write_b78 x1 x2 x3 M = some z) : V l g (wM b) m_X10_write 78 [(0, .ref (b + 0)), (1, .int x1), (2, .int x2), (3, .int x3)] [] M (some (.int z.1)) z.2 := by
  unfold f_X10_write_b78 at hf
  refine V_aload_n (Y := m_X10_write) (pc := 78) 0 dX10_write_78 rfl ?_
  refine V_grL (Y := m_X10_write) (pc := 79) (x := 6) 6 kX10 sM_0 (by decide +kernel) rfl rfl tw_1076 dX10_write_79 ?_
  refine V_bipush (Y := m_X10_write) (pc := 82) (x := (24 : Int32)) dX10_write_82 (by decide +kernel) ?_
  refine V_iload_n (Y := m_X10_write) (pc := 84) 1 dX10_write_84 rfl ?_
  refine V_imul (Y := m_X10_write) (pc := 85) dX10_write_85 ?_
  refine V_iload_n (Y := m_X10_write) (pc := 86) 2 dX10_write_86 rfl ?_
  refine V_iadd (Y := m_X10_write) (pc := 87) dX10_write_87 ?_
  refine V_iload_n (Y := m_X10_write) (pc := 88) 3 dX10_write_88 rfl ?_
  obtain ⟨hi1, hf⟩ := g_if hf
  refine V_iast (Y := m_X10_write) (pc := 89) sM_6 hi1 dX10_write_89 ?_
  refine V_iconst (Y := m_X10_write) (pc := 90) (x := (1 : Int32)) dX10_write_90 (by decide +kernel) ?_
  obtain rfl := Option.some.inj hf
  exact V_iret (Y := m_X10_write) rfl dX10_write_91
def f_X10_write_b0  (x1 : Int32) (x2 : Int32) (x3 : Int32) (M : Mem) : Option (Int32 × Mem) :=
  (f_X10_isSheet x1 M).bind fun q1 =>
  if q1.1 = 0 then
    some ((-1000000001 : Int32), q1.2)
  else
    if ixb x1 4 = true then
    if 0 ≤ (q1.2 4 (ix x1)) then
      if ixb x1 4 = true then
      (f_X10_isIn x2.toInt64 (0 : Int64) ((q1.2 5 (ix x1)) - (1 : Int32)).toInt64 q1.2).bind fun q4 =>
      if q4.1 = 0 then
        some ((-1000000013 : Int32), q4.2)
      else
        if ixb x1 4 = true then
        if (q4.2 4 (ix x1)) = (1 : Int32) then
          if x3 = (-1000000005 : Int32) then
            f_X10_write_b78  x1 x2 x3 q4.2
          else
            (f_X10_isIn x3.toInt64 (-99999 : Int64) (99999 : Int64) q4.2).bind fun q6 =>
            if q6.1 = 0 then
              some ((-1000000001 : Int32), q6.2)
            else
              f_X10_write_b78  x1 x2 x3 q6.2
        else
          f_X10_write_b78  x1 x2 x3 q4.2
        else none
      else none
    else
      some ((-1000000011 : Int32), q1.2)
    else none
set_option maxRecDepth 20000 in
set_option maxHeartbeats 4000000 in
theorem ok_X10_write_b0 {l : Launch} {g : Gam} {b : Nat}   (x1 : Int32) (x2 : Int32) (x3 : Int32) (M : Mem) (z : Int32 × Mem)  (hf : f_X10_write_b0 x1 x2 x3 M = some z) : V l g (wM b) m_X10_write 0 [(0, .ref (b + 0)), (1, .int x1), (2, .int x2), (3, .int x3)] [] M (some (.int z.1)) z.2 := by
  unfold f_X10_write_b0 at hf
  refine V_iload_n (Y := m_X10_write) (pc := 0) 1 dX10_write_0 rfl ?_
  obtain ⟨q1, hq1, hf⟩ := g_bind hf
  refine V_cSi (Y := m_X10_write) (pc := 1) (As := [.int x1]) yf_X10_isSheet (by decide +kernel) (ok_X10_isSheet x1 M _  hq1) tw_1537 tw_1536 rfl rfl (Nat.le_of_ble_eq_true rfl) dX10_write_1 ?_
  refine V_if_ne (Y := m_X10_write) (pc := 4) (tgt := 10) dX10_write_4 (by decide +kernel) hf (fun hf => ?_) (fun hf => ?_)
  · refine V_aload_n (Y := m_X10_write) (pc := 10) 0 dX10_write_10 rfl ?_
    refine V_grL (Y := m_X10_write) (pc := 11) (x := 4) 4 kX10 sM_0 (by decide +kernel) rfl rfl tw_1074 dX10_write_11 ?_
    refine V_iload_n (Y := m_X10_write) (pc := 14) 1 dX10_write_14 rfl ?_
    obtain ⟨hi2, hf⟩ := g_if hf
    refine V_iald (Y := m_X10_write) (pc := 15) sM_4 hi2 dX10_write_15 ?_
    refine V_if_ge (Y := m_X10_write) (pc := 16) (tgt := 23) dX10_write_16 (by decide +kernel) hf (fun hf => ?_) (fun hf => ?_)
    · refine V_iload_n (Y := m_X10_write) (pc := 23) 2 dX10_write_23 rfl ?_
      refine V_i2l (Y := m_X10_write) (pc := 24) dX10_write_24 ?_
      refine V_lconst (Y := m_X10_write) (pc := 25) (x := (0 : Int64)) dX10_write_25 (by decide +kernel) ?_
      refine V_aload_n (Y := m_X10_write) (pc := 26) 0 dX10_write_26 rfl ?_
      refine V_grL (Y := m_X10_write) (pc := 27) (x := 5) 5 kX10 sM_0 (by decide +kernel) rfl rfl tw_1075 dX10_write_27 ?_
      refine V_iload_n (Y := m_X10_write) (pc := 30) 1 dX10_write_30 rfl ?_
      obtain ⟨hi3, hf⟩ := g_if hf
      refine V_iald (Y := m_X10_write) (pc := 31) sM_5 hi3 dX10_write_31 ?_
      refine V_iconst (Y := m_X10_write) (pc := 32) (x := (1 : Int32)) dX10_write_32 (by decide +kernel) ?_
      refine V_isub (Y := m_X10_write) (pc := 33) dX10_write_33 ?_
      refine V_i2l (Y := m_X10_write) (pc := 34) dX10_write_34 ?_
      obtain ⟨q4, hq4, hf⟩ := g_bind hf
      refine V_cSi (Y := m_X10_write) (pc := 35) (As := [.long x2.toInt64, .long (0 : Int64), .long ((q1.2 5 (ix x1)) - (1 : Int32)).toInt64]) yf_X10_isIn (by decide +kernel) (ok_X10_isIn x2.toInt64 (0 : Int64) ((q1.2 5 (ix x1)) - (1 : Int32)).toInt64 q1.2 _  hq4) tw_1218 tw_1217 rfl rfl (Nat.le_of_ble_eq_true rfl) dX10_write_35 ?_
      refine V_if_ne (Y := m_X10_write) (pc := 38) (tgt := 45) dX10_write_38 (by decide +kernel) hf (fun hf => ?_) (fun hf => ?_)
      · refine V_aload_n (Y := m_X10_write) (pc := 45) 0 dX10_write_45 rfl ?_
        refine V_grL (Y := m_X10_write) (pc := 46) (x := 4) 4 kX10 sM_0 (by decide +kernel) rfl rfl tw_1074 dX10_write_46 ?_
        refine V_iload_n (Y := m_X10_write) (pc := 49) 1 dX10_write_49 rfl ?_
        obtain ⟨hi5, hf⟩ := g_if hf
        refine V_iald (Y := m_X10_write) (pc := 50) sM_4 hi5 dX10_write_50 ?_
        refine V_iconst (Y := m_X10_write) (pc := 51) (x := (1 : Int32)) dX10_write_51 (by decide +kernel) ?_
        refine V_icmp_ne (Y := m_X10_write) (pc := 52) (tgt := 78) dX10_write_52 (by decide +kernel) hf (fun hf => ?_) (fun hf => ?_)
        · exact V_sub [0, 1, 2, 3] rfl (ok_X10_write_b78  x1 x2 x3 q4.2 z  hf)
        · refine V_iload_n (Y := m_X10_write) (pc := 55) 3 dX10_write_55 rfl ?_
          refine V_ldc (Y := m_X10_write) (pc := 56) (x := (-1000000005 : Int32)) dX10_write_56 tw_1249 ?_
          refine V_icmp_eq (Y := m_X10_write) (pc := 58) (tgt := 78) dX10_write_58 (by decide +kernel) hf (fun hf => ?_) (fun hf => ?_)
          · exact V_sub [0, 1, 2, 3] rfl (ok_X10_write_b78  x1 x2 x3 q4.2 z  hf)
          · refine V_iload_n (Y := m_X10_write) (pc := 61) 3 dX10_write_61 rfl ?_
            refine V_i2l (Y := m_X10_write) (pc := 62) dX10_write_62 ?_
            refine V_ldc2 (Y := m_X10_write) (pc := 63) (x := (-99999 : Int64)) dX10_write_63 tw_1605 ?_
            refine V_ldc2 (Y := m_X10_write) (pc := 66) (x := (99999 : Int64)) dX10_write_66 tw_1606 ?_
            obtain ⟨q6, hq6, hf⟩ := g_bind hf
            refine V_cSi (Y := m_X10_write) (pc := 69) (As := [.long x3.toInt64, .long (-99999 : Int64), .long (99999 : Int64)]) yf_X10_isIn (by decide +kernel) (ok_X10_isIn x3.toInt64 (-99999 : Int64) (99999 : Int64) q4.2 _  hq6) tw_1218 tw_1217 rfl rfl (Nat.le_of_ble_eq_true rfl) dX10_write_69 ?_
            refine V_if_ne (Y := m_X10_write) (pc := 72) (tgt := 78) dX10_write_72 (by decide +kernel) hf (fun hf => ?_) (fun hf => ?_)
            · exact V_sub [0, 1, 2, 3] rfl (ok_X10_write_b78  x1 x2 x3 q6.2 z  hf)
            · refine V_ldc (Y := m_X10_write) (pc := 75) (x := (-1000000001 : Int32)) dX10_write_75 tw_1224 ?_
              obtain rfl := Option.some.inj hf
              exact V_iret (Y := m_X10_write) rfl dX10_write_77
      · refine V_ldcw (Y := m_X10_write) (pc := 41) (x := (-1000000013 : Int32)) dX10_write_41 tw_1604 ?_
        obtain rfl := Option.some.inj hf
        exact V_iret (Y := m_X10_write) rfl dX10_write_44
    · refine V_ldcw (Y := m_X10_write) (pc := 19) (x := (-1000000011 : Int32)) dX10_write_19 tw_1539 ?_
      obtain rfl := Option.some.inj hf
      exact V_iret (Y := m_X10_write) rfl dX10_write_22
  · refine V_ldc (Y := m_X10_write) (pc := 7) (x := (-1000000001 : Int32)) dX10_write_7 tw_1224 ?_
    obtain rfl := Option.some.inj hf
    exact V_iret (Y := m_X10_write) rfl dX10_write_9
def f_X10_write (x1 : Int32) (x2 : Int32) (x3 : Int32) (M : Mem) : Option (Int32 × Mem) := f_X10_write_b0 x1 x2 x3 M
set_option maxRecDepth 20000 in
set_option maxHeartbeats 4000000 in
theorem ok_X10_write {l : Launch} {g : Gam} {b : Nat} : ∀ (x1 : Int32) (x2 : Int32) (x3 : Int32) (M : Mem) (z : Int32 × Mem), f_X10_write x1 x2 x3 M = some z → Cn l g (wM b) m_X10_write [.ref (b + 0), .int x1, .int x2, .int x3] M (some (.int z.1)) z.2 := fun x1 x2 x3 M z  hf => Cn_of (by decide +kernel) (Nat.le_of_ble_eq_true rfl) (V_sub [0, 1, 2, 3] rfl (ok_X10_write_b0 x1 x2 x3 M z  hf))

abbrev m_X10_log : Mth := (yX10_log, cX10_log, 6, some .int, 3)
theorem yf_X10_log : YF m_X10_log 2 := ⟨tw_1610, tw_75, by decide +kernel, by decide +kernel⟩
def f_X10_log_b186 (k128 : Int32 → Int32 → Int32 → Int32 → Mem → Option (Int32 × Mem)) (x1 : Int32) (x2 : Int32) (x3 : Int32) (x4 : Int32) (M : Mem) : Option (Int32 × Mem) :=
  k128 x1 x2 x3 (x4 + (1 : Int32)) M
set_option maxRecDepth 20000 in
set_option maxHeartbeats 4000000 in
theorem ok_X10_log_b186 {l : Launch} {g : Gam} {b : Nat} (k128 : Int32 → Int32 → Int32 → Int32 → Mem → Option (Int32 × Mem)) (hk128 : ∀ (x1 : Int32) (x2 : Int32) (x3 : Int32) (x4 : Int32) (M : Mem) (z : Int32 × Mem), k128 x1 x2 x3 x4 M = some z → V l g (wM b) m_X10_log 128 [(0, .ref (b + 0)), (1, .int x1), (2, .int x2), (3, .int x3), (4, .int x4)] [] M (some (.int z.1)) z.2) (x1 : Int32) (x2 : Int32) (x3 : Int32) (x4 : Int32) (M : Mem) (z : Int32 × Mem)  (hf : f_X10_log_b186 k128 x1 x2 x3 x4 M = some z) : V l g (wM b) m_X10_log 186 [(0, .ref (b + 0)), (1, .int x1), (2, .int x2), (3, .int x3), (4, .int x4)] [] M (some (.int z.1)) z.2 := by
  unfold f_X10_log_b186 at hf
  refine V_iinc (Y := m_X10_log) (pc := 186) (y := (x4 + (1 : Int32))) 4 [(4, .int (x4 + (1 : Int32))), (0, .ref (b + 0)), (1, .int x1), (2, .int x2), (3, .int x3)] dX10_log_186 rfl rfl (by decide +kernel) rfl ?_
  refine V_goto (Y := m_X10_log) (pc := 189) (tgt := 128) dX10_log_189 (by decide +kernel) ?_
  exact V_sub [1, 2, 3, 4, 0] rfl (hk128 x1 x2 x3 (x4 + (1 : Int32)) M z  hf)
def f_X10_log_b128  : Nat → Int32 → Int32 → Int32 → Int32 → Mem → Option (Int32 × Mem)
  | 0, _, _, _, _, _ => none
  | n + 1, x1, x2, x3, x4, M =>
    if ixb x1 4 = true then
    if (M 5 (ix x1)) ≤ x4 then
      some (x3, M)
    else
      if ixb (((24 : Int32) * x1) + x4) 96 = true then
      (f_X10_isIn (M 6 (ix (((24 : Int32) * x1) + x4))).toInt64 (0 : Int64) (999 : Int64) M).bind fun q3 =>
      if q3.1 = 0 then
        f_X10_log_b186 (f_X10_log_b128  n) x1 x2 x3 x4 q3.2
      else
        if ixb (((24 : Int32) * x1) + x4) 96 = true then
        (f_X10_add (0 : Int32) (x2 + x4) (q3.2 6 (ix (((24 : Int32) * x1) + x4))) (0 : Int32) q3.2).bind fun q5 =>
        f_X10_log_b186 (f_X10_log_b128  n) x1 x2 x3 x4 q5.2
        else none
      else none
    else none
set_option maxRecDepth 20000 in
set_option maxHeartbeats 4000000 in
theorem ok_X10_log_b128 {l : Launch} {g : Gam} {b : Nat}   : ∀ (n : Nat) (x1 : Int32) (x2 : Int32) (x3 : Int32) (x4 : Int32) (M : Mem) (z : Int32 × Mem), f_X10_log_b128  n x1 x2 x3 x4 M = some z → V l g (wM b) m_X10_log 128 [(0, .ref (b + 0)), (1, .int x1), (2, .int x2), (3, .int x3), (4, .int x4)] [] M (some (.int z.1)) z.2 := by
  intro n
  induction n with
  | zero =>
    intro x1 x2 x3 x4 M z  hf
    cases hf
  | succ n ih =>
    intro x1 x2 x3 x4 M z  hf
    rw [f_X10_log_b128] at hf
    refine V_iload (Y := m_X10_log) (pc := 128) 4 dX10_log_128 rfl ?_
    refine V_aload_n (Y := m_X10_log) (pc := 130) 0 dX10_log_130 rfl ?_
    refine V_grL (Y := m_X10_log) (pc := 131) (x := 5) 5 kX10 sM_0 (by decide +kernel) rfl rfl tw_1075 dX10_log_131 ?_
    refine V_iload_n (Y := m_X10_log) (pc := 134) 1 dX10_log_134 rfl ?_
    obtain ⟨hi1, hf⟩ := g_if hf
    refine V_iald (Y := m_X10_log) (pc := 135) sM_5 hi1 dX10_log_135 ?_
    refine V_icmp_ge (Y := m_X10_log) (pc := 136) (tgt := 192) dX10_log_136 (by decide +kernel) hf (fun hf => ?_) (fun hf => ?_)
    · refine V_iload_n (Y := m_X10_log) (pc := 192) 3 dX10_log_192 rfl ?_
      obtain rfl := Option.some.inj hf
      exact V_iret (Y := m_X10_log) rfl dX10_log_193
    · refine V_aload_n (Y := m_X10_log) (pc := 139) 0 dX10_log_139 rfl ?_
      refine V_grL (Y := m_X10_log) (pc := 140) (x := 6) 6 kX10 sM_0 (by decide +kernel) rfl rfl tw_1076 dX10_log_140 ?_
      refine V_bipush (Y := m_X10_log) (pc := 143) (x := (24 : Int32)) dX10_log_143 (by decide +kernel) ?_
      refine V_iload_n (Y := m_X10_log) (pc := 145) 1 dX10_log_145 rfl ?_
      refine V_imul (Y := m_X10_log) (pc := 146) dX10_log_146 ?_
      refine V_iload (Y := m_X10_log) (pc := 147) 4 dX10_log_147 rfl ?_
      refine V_iadd (Y := m_X10_log) (pc := 149) dX10_log_149 ?_
      obtain ⟨hi2, hf⟩ := g_if hf
      refine V_iald (Y := m_X10_log) (pc := 150) sM_6 hi2 dX10_log_150 ?_
      refine V_i2l (Y := m_X10_log) (pc := 151) dX10_log_151 ?_
      refine V_lconst (Y := m_X10_log) (pc := 152) (x := (0 : Int64)) dX10_log_152 (by decide +kernel) ?_
      refine V_ldc2 (Y := m_X10_log) (pc := 153) (x := (999 : Int64)) dX10_log_153 tw_1221 ?_
      obtain ⟨q3, hq3, hf⟩ := g_bind hf
      refine V_cSi (Y := m_X10_log) (pc := 156) (As := [.long (M 6 (ix (((24 : Int32) * x1) + x4))).toInt64, .long (0 : Int64), .long (999 : Int64)]) yf_X10_isIn (by decide +kernel) (ok_X10_isIn (M 6 (ix (((24 : Int32) * x1) + x4))).toInt64 (0 : Int64) (999 : Int64) M _  hq3) tw_1218 tw_1217 rfl rfl (Nat.le_of_ble_eq_true rfl) dX10_log_156 ?_
      refine V_if_eq (Y := m_X10_log) (pc := 159) (tgt := 186) dX10_log_159 (by decide +kernel) hf (fun hf => ?_) (fun hf => ?_)
      · exact V_sub [0, 1, 2, 3, 4] rfl (ok_X10_log_b186 (f_X10_log_b128  n) ih x1 x2 x3 x4 q3.2 z  hf)
      · refine V_aload_n (Y := m_X10_log) (pc := 162) 0 dX10_log_162 rfl ?_
        refine V_iconst (Y := m_X10_log) (pc := 163) (x := (0 : Int32)) dX10_log_163 (by decide +kernel) ?_
        refine V_iload_n (Y := m_X10_log) (pc := 164) 2 dX10_log_164 rfl ?_
        refine V_iload (Y := m_X10_log) (pc := 165) 4 dX10_log_165 rfl ?_
        refine V_iadd (Y := m_X10_log) (pc := 167) dX10_log_167 ?_
        refine V_aload_n (Y := m_X10_log) (pc := 168) 0 dX10_log_168 rfl ?_
        refine V_grL (Y := m_X10_log) (pc := 169) (x := 6) 6 kX10 sM_0 (by decide +kernel) rfl rfl tw_1076 dX10_log_169 ?_
        refine V_bipush (Y := m_X10_log) (pc := 172) (x := (24 : Int32)) dX10_log_172 (by decide +kernel) ?_
        refine V_iload_n (Y := m_X10_log) (pc := 174) 1 dX10_log_174 rfl ?_
        refine V_imul (Y := m_X10_log) (pc := 175) dX10_log_175 ?_
        refine V_iload (Y := m_X10_log) (pc := 176) 4 dX10_log_176 rfl ?_
        refine V_iadd (Y := m_X10_log) (pc := 178) dX10_log_178 ?_
        obtain ⟨hi4, hf⟩ := g_if hf
        refine V_iald (Y := m_X10_log) (pc := 179) sM_6 hi4 dX10_log_179 ?_
        refine V_iconst (Y := m_X10_log) (pc := 180) (x := (0 : Int32)) dX10_log_180 (by decide +kernel) ?_
        obtain ⟨q5, hq5, hf⟩ := g_bind hf
        refine V_cVi (Y := m_X10_log) (pc := 181) (As := [.int (0 : Int32), .int (x2 + x4), .int (q3.2 6 (ix (((24 : Int32) * x1) + x4))), .int (0 : Int32)]) yf_X10_add kX10 sM_0 (by decide +kernel) (ok_X10_add (0 : Int32) (x2 + x4) (q3.2 6 (ix (((24 : Int32) * x1) + x4))) (0 : Int32) q3.2 _  hq5) tw_1228 tw_17 tw_1226 rfl rfl (Nat.le_of_ble_eq_true rfl) dX10_log_181 ?_
        refine V_istore (Y := m_X10_log) (pc := 184) [(5, .int q5.1), (0, .ref (b + 0)), (1, .int x1), (2, .int x2), (3, .int x3), (4, .int x4)] dX10_log_184 (by decide +kernel) rfl ?_
        exact V_sub [1, 2, 3, 4, 5] rfl (ok_X10_log_b186 (f_X10_log_b128  n) ih x1 x2 x3 x4 q5.2 z  hf)
def f_X10_log_b109  (x1 : Int32) (x2 : Int32) (x3 : Int32) (M : Mem) : Option (Int32 × Mem) :=
  if ((M 1 0) + x3) ≤ (24 : Int32) then
    f_X10_log_b128  FU x1 x2 x3 (0 : Int32) M
  else
    some ((-1000000003 : Int32), M)
set_option maxRecDepth 20000 in
set_option maxHeartbeats 4000000 in
theorem ok_X10_log_b109 {l : Launch} {g : Gam} {b : Nat}   (x1 : Int32) (x2 : Int32) (x3 : Int32) (M : Mem) (z : Int32 × Mem)  (hf : f_X10_log_b109 x1 x2 x3 M = some z) : V l g (wM b) m_X10_log 109 [(0, .ref (b + 0)), (1, .int x1), (2, .int x2), (3, .int x3)] [] M (some (.int z.1)) z.2 := by
  unfold f_X10_log_b109 at hf
  refine V_aload_n (Y := m_X10_log) (pc := 109) 0 dX10_log_109 rfl ?_
  refine V_grL (Y := m_X10_log) (pc := 110) (x := 1) 0 kX10 sM_0 (by decide +kernel) rfl rfl tw_1070 dX10_log_110 ?_
  refine V_iconst (Y := m_X10_log) (pc := 113) (x := (0 : Int32)) dX10_log_113 (by decide +kernel) ?_
  refine V_ialdL (Y := m_X10_log) (pc := 114) (j := 0) sM_1 (by decide +kernel) rfl dX10_log_114 ?_
  refine V_iload_n (Y := m_X10_log) (pc := 115) 3 dX10_log_115 rfl ?_
  refine V_iadd (Y := m_X10_log) (pc := 116) dX10_log_116 ?_
  refine V_bipush (Y := m_X10_log) (pc := 117) (x := (24 : Int32)) dX10_log_117 (by decide +kernel) ?_
  refine V_icmp_le (Y := m_X10_log) (pc := 119) (tgt := 125) dX10_log_119 (by decide +kernel) hf (fun hf => ?_) (fun hf => ?_)
  · refine V_iconst (Y := m_X10_log) (pc := 125) (x := (0 : Int32)) dX10_log_125 (by decide +kernel) ?_
    refine V_istore (Y := m_X10_log) (pc := 126) [(4, .int (0 : Int32)), (0, .ref (b + 0)), (1, .int x1), (2, .int x2), (3, .int x3)] dX10_log_126 (by decide +kernel) rfl ?_
    exact V_sub [1, 2, 3, 4, 0] rfl (ok_X10_log_b128  FU x1 x2 x3 (0 : Int32) M z  hf)
  · refine V_ldc (Y := m_X10_log) (pc := 122) (x := (-1000000003 : Int32)) dX10_log_122 tw_1225 ?_
    obtain rfl := Option.some.inj hf
    exact V_iret (Y := m_X10_log) rfl dX10_log_124
def f_X10_log_b101 (k61 : Int32 → Int32 → Int32 → Int32 → Mem → Option (Int32 × Mem)) (x1 : Int32) (x2 : Int32) (x4 : Int32) (s0 : Int32) (s1 : Int32) (M : Mem) : Option (Int32 × Mem) :=
  k61 x1 x2 (s1 + s0) (x4 + (1 : Int32)) M
set_option maxRecDepth 20000 in
set_option maxHeartbeats 4000000 in
theorem ok_X10_log_b101 {l : Launch} {g : Gam} {b : Nat} (k61 : Int32 → Int32 → Int32 → Int32 → Mem → Option (Int32 × Mem)) (hk61 : ∀ (x1 : Int32) (x2 : Int32) (x3 : Int32) (x4 : Int32) (M : Mem) (z : Int32 × Mem), k61 x1 x2 x3 x4 M = some z → V l g (wM b) m_X10_log 61 [(0, .ref (b + 0)), (1, .int x1), (2, .int x2), (3, .int x3), (4, .int x4)] [] M (some (.int z.1)) z.2) (x1 : Int32) (x2 : Int32) (x4 : Int32) (s0 : Int32) (s1 : Int32) (M : Mem) (z : Int32 × Mem)  (hf : f_X10_log_b101 k61 x1 x2 x4 s0 s1 M = some z) : V l g (wM b) m_X10_log 101 [(0, .ref (b + 0)), (1, .int x1), (2, .int x2), (4, .int x4)] [.int s0, .int s1] M (some (.int z.1)) z.2 := by
  unfold f_X10_log_b101 at hf
  refine V_iadd (Y := m_X10_log) (pc := 101) dX10_log_101 ?_
  refine V_istore_n (Y := m_X10_log) (pc := 102) [(3, .int (s1 + s0)), (0, .ref (b + 0)), (1, .int x1), (2, .int x2), (4, .int x4)] dX10_log_102 (by decide +kernel) rfl ?_
  refine V_iinc (Y := m_X10_log) (pc := 103) (y := (x4 + (1 : Int32))) 4 [(4, .int (x4 + (1 : Int32))), (3, .int (s1 + s0)), (0, .ref (b + 0)), (1, .int x1), (2, .int x2)] dX10_log_103 rfl rfl (by decide +kernel) rfl ?_
  refine V_goto (Y := m_X10_log) (pc := 106) (tgt := 61) dX10_log_106 (by decide +kernel) ?_
  exact V_sub [2, 3, 4, 1, 0] rfl (hk61 x1 x2 (s1 + s0) (x4 + (1 : Int32)) M z  hf)
def f_X10_log_b61  : Nat → Int32 → Int32 → Int32 → Int32 → Mem → Option (Int32 × Mem)
  | 0, _, _, _, _, _ => none
  | n + 1, x1, x2, x3, x4, M =>
    if ixb x1 4 = true then
    if (M 5 (ix x1)) ≤ x4 then
      f_X10_log_b109  x1 x2 x3 M
    else
      if ixb (((24 : Int32) * x1) + x4) 96 = true then
      (f_X10_isIn (M 6 (ix (((24 : Int32) * x1) + x4))).toInt64 (0 : Int64) (999 : Int64) M).bind fun q3 =>
      if q3.1 = 0 then
        f_X10_log_b101 (f_X10_log_b61  n) x1 x2 x4 (0 : Int32) x3 q3.2
      else
        f_X10_log_b101 (f_X10_log_b61  n) x1 x2 x4 (1 : Int32) x3 q3.2
      else none
    else none
set_option maxRecDepth 20000 in
set_option maxHeartbeats 4000000 in
theorem ok_X10_log_b61 {l : Launch} {g : Gam} {b : Nat}   : ∀ (n : Nat) (x1 : Int32) (x2 : Int32) (x3 : Int32) (x4 : Int32) (M : Mem) (z : Int32 × Mem), f_X10_log_b61  n x1 x2 x3 x4 M = some z → V l g (wM b) m_X10_log 61 [(0, .ref (b + 0)), (1, .int x1), (2, .int x2), (3, .int x3), (4, .int x4)] [] M (some (.int z.1)) z.2 := by
  intro n
  induction n with
  | zero =>
    intro x1 x2 x3 x4 M z  hf
    cases hf
  | succ n ih =>
    intro x1 x2 x3 x4 M z  hf
    rw [f_X10_log_b61] at hf
    refine V_iload (Y := m_X10_log) (pc := 61) 4 dX10_log_61 rfl ?_
    refine V_aload_n (Y := m_X10_log) (pc := 63) 0 dX10_log_63 rfl ?_
    refine V_grL (Y := m_X10_log) (pc := 64) (x := 5) 5 kX10 sM_0 (by decide +kernel) rfl rfl tw_1075 dX10_log_64 ?_
    refine V_iload_n (Y := m_X10_log) (pc := 67) 1 dX10_log_67 rfl ?_
    obtain ⟨hi1, hf⟩ := g_if hf
    refine V_iald (Y := m_X10_log) (pc := 68) sM_5 hi1 dX10_log_68 ?_
    refine V_icmp_ge (Y := m_X10_log) (pc := 69) (tgt := 109) dX10_log_69 (by decide +kernel) hf (fun hf => ?_) (fun hf => ?_)
    · exact V_sub [0, 1, 2, 3] rfl (ok_X10_log_b109  x1 x2 x3 M z  hf)
    · refine V_iload_n (Y := m_X10_log) (pc := 72) 3 dX10_log_72 rfl ?_
      refine V_aload_n (Y := m_X10_log) (pc := 73) 0 dX10_log_73 rfl ?_
      refine V_grL (Y := m_X10_log) (pc := 74) (x := 6) 6 kX10 sM_0 (by decide +kernel) rfl rfl tw_1076 dX10_log_74 ?_
      refine V_bipush (Y := m_X10_log) (pc := 77) (x := (24 : Int32)) dX10_log_77 (by decide +kernel) ?_
      refine V_iload_n (Y := m_X10_log) (pc := 79) 1 dX10_log_79 rfl ?_
      refine V_imul (Y := m_X10_log) (pc := 80) dX10_log_80 ?_
      refine V_iload (Y := m_X10_log) (pc := 81) 4 dX10_log_81 rfl ?_
      refine V_iadd (Y := m_X10_log) (pc := 83) dX10_log_83 ?_
      obtain ⟨hi2, hf⟩ := g_if hf
      refine V_iald (Y := m_X10_log) (pc := 84) sM_6 hi2 dX10_log_84 ?_
      refine V_i2l (Y := m_X10_log) (pc := 85) dX10_log_85 ?_
      refine V_lconst (Y := m_X10_log) (pc := 86) (x := (0 : Int64)) dX10_log_86 (by decide +kernel) ?_
      refine V_ldc2 (Y := m_X10_log) (pc := 87) (x := (999 : Int64)) dX10_log_87 tw_1221 ?_
      obtain ⟨q3, hq3, hf⟩ := g_bind hf
      refine V_cSi (Y := m_X10_log) (pc := 90) (As := [.long (M 6 (ix (((24 : Int32) * x1) + x4))).toInt64, .long (0 : Int64), .long (999 : Int64)]) yf_X10_isIn (by decide +kernel) (ok_X10_isIn (M 6 (ix (((24 : Int32) * x1) + x4))).toInt64 (0 : Int64) (999 : Int64) M _  hq3) tw_1218 tw_1217 rfl rfl (Nat.le_of_ble_eq_true rfl) dX10_log_90 ?_
      refine V_if_eq (Y := m_X10_log) (pc := 93) (tgt := 100) dX10_log_93 (by decide +kernel) hf (fun hf => ?_) (fun hf => ?_)
      · refine V_iconst (Y := m_X10_log) (pc := 100) (x := (0 : Int32)) dX10_log_100 (by decide +kernel) ?_
        exact V_sub [0, 1, 2, 4] rfl (ok_X10_log_b101 (f_X10_log_b61  n) ih x1 x2 x4 (0 : Int32) x3 q3.2 z  hf)
      · refine V_iconst (Y := m_X10_log) (pc := 96) (x := (1 : Int32)) dX10_log_96 (by decide +kernel) ?_
        refine V_goto (Y := m_X10_log) (pc := 97) (tgt := 101) dX10_log_97 (by decide +kernel) ?_
        exact V_sub [0, 1, 2, 4] rfl (ok_X10_log_b101 (f_X10_log_b61  n) ih x1 x2 x4 (1 : Int32) x3 q3.2 z  hf)
def f_X10_log_b0  (x1 : Int32) (x2 : Int32) (M : Mem) : Option (Int32 × Mem) :=
  (f_X10_isSheet x1 M).bind fun q1 =>
  if q1.1 = 0 then
    some ((-1000000001 : Int32), q1.2)
  else
    (f_X10_isIn x2.toInt64 (0 : Int64) (299 : Int64) q1.2).bind fun q2 =>
    if q2.1 = 0 then
      some ((-1000000001 : Int32), q2.2)
    else
      if ixb x1 4 = true then
      if 0 ≤ (q2.2 4 (ix x1)) then
        if ixb x1 4 = true then
        if (((irem x2 (100 : Int32)) + (q2.2 5 (ix x1))) - (1 : Int32)) ≤ (99 : Int32) then
          f_X10_log_b61  FU x1 x2 (0 : Int32) (0 : Int32) q2.2
        else
          some ((-1000000001 : Int32), q2.2)
        else none
      else
        some ((-1000000011 : Int32), q2.2)
      else none
set_option maxRecDepth 20000 in
set_option maxHeartbeats 4000000 in
theorem ok_X10_log_b0 {l : Launch} {g : Gam} {b : Nat}   (x1 : Int32) (x2 : Int32) (M : Mem) (z : Int32 × Mem)  (hf : f_X10_log_b0 x1 x2 M = some z) : V l g (wM b) m_X10_log 0 [(0, .ref (b + 0)), (1, .int x1), (2, .int x2)] [] M (some (.int z.1)) z.2 := by
  unfold f_X10_log_b0 at hf
  refine V_iload_n (Y := m_X10_log) (pc := 0) 1 dX10_log_0 rfl ?_
  obtain ⟨q1, hq1, hf⟩ := g_bind hf
  refine V_cSi (Y := m_X10_log) (pc := 1) (As := [.int x1]) yf_X10_isSheet (by decide +kernel) (ok_X10_isSheet x1 M _  hq1) tw_1537 tw_1536 rfl rfl (Nat.le_of_ble_eq_true rfl) dX10_log_1 ?_
  refine V_if_eq (Y := m_X10_log) (pc := 4) (tgt := 19) dX10_log_4 (by decide +kernel) hf (fun hf => ?_) (fun hf => ?_)
  · refine V_ldc (Y := m_X10_log) (pc := 19) (x := (-1000000001 : Int32)) dX10_log_19 tw_1224 ?_
    obtain rfl := Option.some.inj hf
    exact V_iret (Y := m_X10_log) rfl dX10_log_21
  · refine V_iload_n (Y := m_X10_log) (pc := 7) 2 dX10_log_7 rfl ?_
    refine V_i2l (Y := m_X10_log) (pc := 8) dX10_log_8 ?_
    refine V_lconst (Y := m_X10_log) (pc := 9) (x := (0 : Int64)) dX10_log_9 (by decide +kernel) ?_
    refine V_ldc2 (Y := m_X10_log) (pc := 10) (x := (299 : Int64)) dX10_log_10 tw_1220 ?_
    obtain ⟨q2, hq2, hf⟩ := g_bind hf
    refine V_cSi (Y := m_X10_log) (pc := 13) (As := [.long x2.toInt64, .long (0 : Int64), .long (299 : Int64)]) yf_X10_isIn (by decide +kernel) (ok_X10_isIn x2.toInt64 (0 : Int64) (299 : Int64) q1.2 _  hq2) tw_1218 tw_1217 rfl rfl (Nat.le_of_ble_eq_true rfl) dX10_log_13 ?_
    refine V_if_ne (Y := m_X10_log) (pc := 16) (tgt := 22) dX10_log_16 (by decide +kernel) hf (fun hf => ?_) (fun hf => ?_)
    · refine V_aload_n (Y := m_X10_log) (pc := 22) 0 dX10_log_22 rfl ?_
      refine V_grL (Y := m_X10_log) (pc := 23) (x := 4) 4 kX10 sM_0 (by decide +kernel) rfl rfl tw_1074 dX10_log_23 ?_
      refine V_iload_n (Y := m_X10_log) (pc := 26) 1 dX10_log_26 rfl ?_
      obtain ⟨hi3, hf⟩ := g_if hf
      refine V_iald (Y := m_X10_log) (pc := 27) sM_4 hi3 dX10_log_27 ?_
      refine V_if_ge (Y := m_X10_log) (pc := 28) (tgt := 35) dX10_log_28 (by decide +kernel) hf (fun hf => ?_) (fun hf => ?_)
      · refine V_iload_n (Y := m_X10_log) (pc := 35) 2 dX10_log_35 rfl ?_
        refine V_bipush (Y := m_X10_log) (pc := 36) (x := (100 : Int32)) dX10_log_36 (by decide +kernel) ?_
        refine V_irem (Y := m_X10_log) (pc := 38) dX10_log_38 (by decide +kernel) ?_
        refine V_aload_n (Y := m_X10_log) (pc := 39) 0 dX10_log_39 rfl ?_
        refine V_grL (Y := m_X10_log) (pc := 40) (x := 5) 5 kX10 sM_0 (by decide +kernel) rfl rfl tw_1075 dX10_log_40 ?_
        refine V_iload_n (Y := m_X10_log) (pc := 43) 1 dX10_log_43 rfl ?_
        obtain ⟨hi4, hf⟩ := g_if hf
        refine V_iald (Y := m_X10_log) (pc := 44) sM_5 hi4 dX10_log_44 ?_
        refine V_iadd (Y := m_X10_log) (pc := 45) dX10_log_45 ?_
        refine V_iconst (Y := m_X10_log) (pc := 46) (x := (1 : Int32)) dX10_log_46 (by decide +kernel) ?_
        refine V_isub (Y := m_X10_log) (pc := 47) dX10_log_47 ?_
        refine V_bipush (Y := m_X10_log) (pc := 48) (x := (99 : Int32)) dX10_log_48 (by decide +kernel) ?_
        refine V_icmp_le (Y := m_X10_log) (pc := 50) (tgt := 56) dX10_log_50 (by decide +kernel) hf (fun hf => ?_) (fun hf => ?_)
        · refine V_iconst (Y := m_X10_log) (pc := 56) (x := (0 : Int32)) dX10_log_56 (by decide +kernel) ?_
          refine V_istore_n (Y := m_X10_log) (pc := 57) [(3, .int (0 : Int32)), (0, .ref (b + 0)), (1, .int x1), (2, .int x2)] dX10_log_57 (by decide +kernel) rfl ?_
          refine V_iconst (Y := m_X10_log) (pc := 58) (x := (0 : Int32)) dX10_log_58 (by decide +kernel) ?_
          refine V_istore (Y := m_X10_log) (pc := 59) [(4, .int (0 : Int32)), (3, .int (0 : Int32)), (0, .ref (b + 0)), (1, .int x1), (2, .int x2)] dX10_log_59 (by decide +kernel) rfl ?_
          exact V_sub [2, 3, 4, 1, 0] rfl (ok_X10_log_b61  FU x1 x2 (0 : Int32) (0 : Int32) q2.2 z  hf)
        · refine V_ldc (Y := m_X10_log) (pc := 53) (x := (-1000000001 : Int32)) dX10_log_53 tw_1224 ?_
          obtain rfl := Option.some.inj hf
          exact V_iret (Y := m_X10_log) rfl dX10_log_55
      · refine V_ldcw (Y := m_X10_log) (pc := 31) (x := (-1000000011 : Int32)) dX10_log_31 tw_1539 ?_
        obtain rfl := Option.some.inj hf
        exact V_iret (Y := m_X10_log) rfl dX10_log_34
    · refine V_ldc (Y := m_X10_log) (pc := 19) (x := (-1000000001 : Int32)) dX10_log_19 tw_1224 ?_
      obtain rfl := Option.some.inj hf
      exact V_iret (Y := m_X10_log) rfl dX10_log_21
def f_X10_log (x1 : Int32) (x2 : Int32) (M : Mem) : Option (Int32 × Mem) := f_X10_log_b0 x1 x2 M
set_option maxRecDepth 20000 in
set_option maxHeartbeats 4000000 in
theorem ok_X10_log {l : Launch} {g : Gam} {b : Nat} : ∀ (x1 : Int32) (x2 : Int32) (M : Mem) (z : Int32 × Mem), f_X10_log x1 x2 M = some z → Cn l g (wM b) m_X10_log [.ref (b + 0), .int x1, .int x2] M (some (.int z.1)) z.2 := fun x1 x2 M z  hf => Cn_of (by decide +kernel) (Nat.le_of_ble_eq_true rfl) (V_sub [0, 1, 2] rfl (ok_X10_log_b0 x1 x2 M z  hf))

abbrev m_X10_copy : Mth := (yX10_copy, cX10_copy, 7, some .int, 3)
theorem yf_X10_copy : YF m_X10_copy 5 := ⟨tw_1614, tw_75, by decide +kernel, by decide +kernel⟩
def f_X10_copy_b35   (M : Mem) : Option (Int32 × Mem) :=
  some ((-1000000011 : Int32), M)
set_option maxRecDepth 20000 in
set_option maxHeartbeats 4000000 in
theorem ok_X10_copy_b35 {l : Launch} {g : Gam} {b : Nat}    (M : Mem) (z : Int32 × Mem)  (hf : f_X10_copy_b35  M = some z) : V l g (wM b) m_X10_copy 35 [] [] M (some (.int z.1)) z.2 := by
  unfold f_X10_copy_b35 at hf
  refine V_ldcw (Y := m_X10_copy) (pc := 35) (x := (-1000000011 : Int32)) dX10_copy_35 tw_1539 ?_
  obtain rfl := Option.some.inj hf
  exact V_iret (Y := m_X10_copy) rfl dX10_copy_38
def f_X10_copy_b106   (M : Mem) : Option (Int32 × Mem) :=
  some ((-1000000013 : Int32), M)
set_option maxRecDepth 20000 in
set_option maxHeartbeats 4000000 in
theorem ok_X10_copy_b106 {l : Launch} {g : Gam} {b : Nat}    (M : Mem) (z : Int32 × Mem)  (hf : f_X10_copy_b106  M = some z) : V l g (wM b) m_X10_copy 106 [] [] M (some (.int z.1)) z.2 := by
  unfold f_X10_copy_b106 at hf
  refine V_ldcw (Y := m_X10_copy) (pc := 106) (x := (-1000000013 : Int32)) dX10_copy_106 tw_1604 ?_
  obtain rfl := Option.some.inj hf
  exact V_iret (Y := m_X10_copy) rfl dX10_copy_109
def f_X10_copy_b150  : Nat → Int32 → Int32 → Int32 → Int32 → Mem → Option (Int32 × Mem)
  | 0, _, _, _, _, _ => none
  | n + 1, x3, x4, x5, x6, M =>
    if x5 ≤ x6 then
      some (x5, M)
    else
      if ixb x6 24 = true then
      if ixb ((((24 : Int32) * x3) + x4) + x6) 96 = true then
      f_X10_copy_b150  n x3 x4 x5 (x6 + (1 : Int32)) (mset M 6 (ix ((((24 : Int32) * x3) + x4) + x6)) (M 20 (ix x6)))
      else none
      else none
set_option maxRecDepth 20000 in
set_option maxHeartbeats 4000000 in
theorem ok_X10_copy_b150 {l : Launch} {g : Gam} {b : Nat}   : ∀ (n : Nat) (x3 : Int32) (x4 : Int32) (x5 : Int32) (x6 : Int32) (M : Mem) (z : Int32 × Mem), f_X10_copy_b150  n x3 x4 x5 x6 M = some z → V l g (wM b) m_X10_copy 150 [(0, .ref (b + 0)), (3, .int x3), (4, .int x4), (5, .int x5), (6, .int x6)] [] M (some (.int z.1)) z.2 := by
  intro n
  induction n with
  | zero =>
    intro x3 x4 x5 x6 M z  hf
    cases hf
  | succ n ih =>
    intro x3 x4 x5 x6 M z  hf
    rw [f_X10_copy_b150] at hf
    refine V_iload (Y := m_X10_copy) (pc := 150) 4 dX10_copy_150 rfl ?_
    refine V_iload (Y := m_X10_copy) (pc := 152) 3 dX10_copy_152 rfl ?_
    refine V_icmp_ge (Y := m_X10_copy) (pc := 154) (tgt := 185) dX10_copy_154 (by decide +kernel) hf (fun hf => ?_) (fun hf => ?_)
    · refine V_iload (Y := m_X10_copy) (pc := 185) 3 dX10_copy_185 rfl ?_
      obtain rfl := Option.some.inj hf
      exact V_iret (Y := m_X10_copy) rfl dX10_copy_187
    · refine V_aload_n (Y := m_X10_copy) (pc := 157) 0 dX10_copy_157 rfl ?_
      refine V_grL (Y := m_X10_copy) (pc := 158) (x := 6) 6 kX10 sM_0 (by decide +kernel) rfl rfl tw_1076 dX10_copy_158 ?_
      refine V_bipush (Y := m_X10_copy) (pc := 161) (x := (24 : Int32)) dX10_copy_161 (by decide +kernel) ?_
      refine V_iload_n (Y := m_X10_copy) (pc := 163) 1 dX10_copy_163 rfl ?_
      refine V_imul (Y := m_X10_copy) (pc := 164) dX10_copy_164 ?_
      refine V_iload (Y := m_X10_copy) (pc := 165) 2 dX10_copy_165 rfl ?_
      refine V_iadd (Y := m_X10_copy) (pc := 167) dX10_copy_167 ?_
      refine V_iload (Y := m_X10_copy) (pc := 168) 4 dX10_copy_168 rfl ?_
      refine V_iadd (Y := m_X10_copy) (pc := 170) dX10_copy_170 ?_
      refine V_aload_n (Y := m_X10_copy) (pc := 171) 0 dX10_copy_171 rfl ?_
      refine V_grL (Y := m_X10_copy) (pc := 172) (x := 20) 40 kX10 sM_0 (by decide +kernel) rfl rfl tw_1110 dX10_copy_172 ?_
      refine V_iload (Y := m_X10_copy) (pc := 175) 4 dX10_copy_175 rfl ?_
      obtain ⟨hi1, hf⟩ := g_if hf
      refine V_iald (Y := m_X10_copy) (pc := 177) sM_20 hi1 dX10_copy_177 ?_
      obtain ⟨hi2, hf⟩ := g_if hf
      refine V_iast (Y := m_X10_copy) (pc := 178) sM_6 hi2 dX10_copy_178 ?_
      refine V_iinc (Y := m_X10_copy) (pc := 179) (y := (x6 + (1 : Int32))) 4 [(6, .int (x6 + (1 : Int32))), (0, .ref (b + 0)), (3, .int x3), (4, .int x4), (5, .int x5)] dX10_copy_179 rfl rfl (by decide +kernel) rfl ?_
      refine V_goto (Y := m_X10_copy) (pc := 182) (tgt := 150) dX10_copy_182 (by decide +kernel) ?_
      exact V_sub [1, 2, 3, 4, 0] rfl (ih x3 x4 x5 (x6 + (1 : Int32)) (mset M 6 (ix ((((24 : Int32) * x3) + x4) + x6)) (M 20 (ix x6))) z  hf)
def f_X10_copy_b147  (x3 : Int32) (x4 : Int32) (x5 : Int32) (M : Mem) : Option (Int32 × Mem) :=
  f_X10_copy_b150  FU x3 x4 x5 (0 : Int32) M
set_option maxRecDepth 20000 in
set_option maxHeartbeats 4000000 in
theorem ok_X10_copy_b147 {l : Launch} {g : Gam} {b : Nat}   (x3 : Int32) (x4 : Int32) (x5 : Int32) (M : Mem) (z : Int32 × Mem)  (hf : f_X10_copy_b147 x3 x4 x5 M = some z) : V l g (wM b) m_X10_copy 147 [(0, .ref (b + 0)), (3, .int x3), (4, .int x4), (5, .int x5)] [] M (some (.int z.1)) z.2 := by
  unfold f_X10_copy_b147 at hf
  refine V_iconst (Y := m_X10_copy) (pc := 147) (x := (0 : Int32)) dX10_copy_147 (by decide +kernel) ?_
  refine V_istore (Y := m_X10_copy) (pc := 148) [(6, .int (0 : Int32)), (0, .ref (b + 0)), (3, .int x3), (4, .int x4), (5, .int x5)] dX10_copy_148 (by decide +kernel) rfl ?_
  exact V_sub [1, 2, 3, 4, 0] rfl (ok_X10_copy_b150  FU x3 x4 x5 (0 : Int32) M z  hf)
def f_X10_copy_b113  : Nat → Int32 → Int32 → Int32 → Int32 → Int32 → Int32 → Mem → Option (Int32 × Mem)
  | 0, _, _, _, _, _, _, _ => none
  | n + 1, x1, x2, x3, x4, x5, x6, M =>
    if x5 ≤ x6 then
      f_X10_copy_b147  x3 x4 x5 M
    else
      if ixb ((((24 : Int32) * x1) + x2) + x6) 96 = true then
      if ixb x6 24 = true then
      f_X10_copy_b113  n x1 x2 x3 x4 x5 (x6 + (1 : Int32)) (mset M 20 (ix x6) (M 6 (ix ((((24 : Int32) * x1) + x2) + x6))))
      else none
      else none
set_option maxRecDepth 20000 in
set_option maxHeartbeats 4000000 in
theorem ok_X10_copy_b113 {l : Launch} {g : Gam} {b : Nat}   : ∀ (n : Nat) (x1 : Int32) (x2 : Int32) (x3 : Int32) (x4 : Int32) (x5 : Int32) (x6 : Int32) (M : Mem) (z : Int32 × Mem), f_X10_copy_b113  n x1 x2 x3 x4 x5 x6 M = some z → V l g (wM b) m_X10_copy 113 [(0, .ref (b + 0)), (1, .int x1), (2, .int x2), (3, .int x3), (4, .int x4), (5, .int x5), (6, .int x6)] [] M (some (.int z.1)) z.2 := by
  intro n
  induction n with
  | zero =>
    intro x1 x2 x3 x4 x5 x6 M z  hf
    cases hf
  | succ n ih =>
    intro x1 x2 x3 x4 x5 x6 M z  hf
    rw [f_X10_copy_b113] at hf
    refine V_iload (Y := m_X10_copy) (pc := 113) 6 dX10_copy_113 rfl ?_
    refine V_iload (Y := m_X10_copy) (pc := 115) 5 dX10_copy_115 rfl ?_
    refine V_icmp_ge (Y := m_X10_copy) (pc := 117) (tgt := 147) dX10_copy_117 (by decide +kernel) hf (fun hf => ?_) (fun hf => ?_)
    · exact V_sub [0, 3, 4, 5] rfl (ok_X10_copy_b147  x3 x4 x5 M z  hf)
    · refine V_aload_n (Y := m_X10_copy) (pc := 120) 0 dX10_copy_120 rfl ?_
      refine V_grL (Y := m_X10_copy) (pc := 121) (x := 20) 40 kX10 sM_0 (by decide +kernel) rfl rfl tw_1110 dX10_copy_121 ?_
      refine V_iload (Y := m_X10_copy) (pc := 124) 6 dX10_copy_124 rfl ?_
      refine V_aload_n (Y := m_X10_copy) (pc := 126) 0 dX10_copy_126 rfl ?_
      refine V_grL (Y := m_X10_copy) (pc := 127) (x := 6) 6 kX10 sM_0 (by decide +kernel) rfl rfl tw_1076 dX10_copy_127 ?_
      refine V_bipush (Y := m_X10_copy) (pc := 130) (x := (24 : Int32)) dX10_copy_130 (by decide +kernel) ?_
      refine V_iload_n (Y := m_X10_copy) (pc := 132) 1 dX10_copy_132 rfl ?_
      refine V_imul (Y := m_X10_copy) (pc := 133) dX10_copy_133 ?_
      refine V_iload_n (Y := m_X10_copy) (pc := 134) 2 dX10_copy_134 rfl ?_
      refine V_iadd (Y := m_X10_copy) (pc := 135) dX10_copy_135 ?_
      refine V_iload (Y := m_X10_copy) (pc := 136) 6 dX10_copy_136 rfl ?_
      refine V_iadd (Y := m_X10_copy) (pc := 138) dX10_copy_138 ?_
      obtain ⟨hi1, hf⟩ := g_if hf
      refine V_iald (Y := m_X10_copy) (pc := 139) sM_6 hi1 dX10_copy_139 ?_
      obtain ⟨hi2, hf⟩ := g_if hf
      refine V_iast (Y := m_X10_copy) (pc := 140) sM_20 hi2 dX10_copy_140 ?_
      refine V_iinc (Y := m_X10_copy) (pc := 141) (y := (x6 + (1 : Int32))) 6 [(6, .int (x6 + (1 : Int32))), (0, .ref (b + 0)), (1, .int x1), (2, .int x2), (3, .int x3), (4, .int x4), (5, .int x5)] dX10_copy_141 rfl rfl (by decide +kernel) rfl ?_
      refine V_goto (Y := m_X10_copy) (pc := 144) (tgt := 113) dX10_copy_144 (by decide +kernel) ?_
      exact V_sub [1, 2, 3, 4, 5, 6, 0] rfl (ih x1 x2 x3 x4 x5 (x6 + (1 : Int32)) (mset M 20 (ix x6) (M 6 (ix ((((24 : Int32) * x1) + x2) + x6)))) z  hf)
def f_X10_copy_b0  (x1 : Int32) (x2 : Int32) (x3 : Int32) (x4 : Int32) (x5 : Int32) (M : Mem) : Option (Int32 × Mem) :=
  (f_X10_isSheet x1 M).bind fun q1 =>
  if q1.1 = 0 then
    some ((-1000000001 : Int32), q1.2)
  else
    (f_X10_isSheet x3 q1.2).bind fun q2 =>
    if q2.1 = 0 then
      some ((-1000000001 : Int32), q2.2)
    else
      if ixb x1 4 = true then
      if (q2.2 4 (ix x1)) < 0 then
        f_X10_copy_b35   q2.2
      else
        if ixb x3 4 = true then
        if 0 ≤ (q2.2 4 (ix x3)) then
          if ixb x1 4 = true then
          if ixb x3 4 = true then
          if (q2.2 4 (ix x1)) = (q2.2 4 (ix x3)) then
            if x2 < 0 then
              f_X10_copy_b106   q2.2
            else
              if x4 < 0 then
                f_X10_copy_b106   q2.2
              else
                if x5 < 0 then
                  f_X10_copy_b106   q2.2
                else
                  if ixb x1 4 = true then
                  if 0 < (lg_cmp (x2.toInt64 + x5.toInt64) (q2.2 5 (ix x1)).toInt64) then
                    f_X10_copy_b106   q2.2
                  else
                    if ixb x3 4 = true then
                    if (lg_cmp (x4.toInt64 + x5.toInt64) (q2.2 5 (ix x3)).toInt64) ≤ 0 then
                      f_X10_copy_b113  FU x1 x2 x3 x4 x5 (0 : Int32) q2.2
                    else
                      f_X10_copy_b106   q2.2
                    else none
                  else none
          else
            some ((-1000000012 : Int32), q2.2)
          else none
          else none
        else
          f_X10_copy_b35   q2.2
        else none
      else none
set_option maxRecDepth 20000 in
set_option maxHeartbeats 4000000 in
theorem ok_X10_copy_b0 {l : Launch} {g : Gam} {b : Nat}   (x1 : Int32) (x2 : Int32) (x3 : Int32) (x4 : Int32) (x5 : Int32) (M : Mem) (z : Int32 × Mem)  (hf : f_X10_copy_b0 x1 x2 x3 x4 x5 M = some z) : V l g (wM b) m_X10_copy 0 [(0, .ref (b + 0)), (1, .int x1), (2, .int x2), (3, .int x3), (4, .int x4), (5, .int x5)] [] M (some (.int z.1)) z.2 := by
  unfold f_X10_copy_b0 at hf
  refine V_iload_n (Y := m_X10_copy) (pc := 0) 1 dX10_copy_0 rfl ?_
  obtain ⟨q1, hq1, hf⟩ := g_bind hf
  refine V_cSi (Y := m_X10_copy) (pc := 1) (As := [.int x1]) yf_X10_isSheet (by decide +kernel) (ok_X10_isSheet x1 M _  hq1) tw_1537 tw_1536 rfl rfl (Nat.le_of_ble_eq_true rfl) dX10_copy_1 ?_
  refine V_if_eq (Y := m_X10_copy) (pc := 4) (tgt := 14) dX10_copy_4 (by decide +kernel) hf (fun hf => ?_) (fun hf => ?_)
  · refine V_ldc (Y := m_X10_copy) (pc := 14) (x := (-1000000001 : Int32)) dX10_copy_14 tw_1224 ?_
    obtain rfl := Option.some.inj hf
    exact V_iret (Y := m_X10_copy) rfl dX10_copy_16
  · refine V_iload_n (Y := m_X10_copy) (pc := 7) 3 dX10_copy_7 rfl ?_
    obtain ⟨q2, hq2, hf⟩ := g_bind hf
    refine V_cSi (Y := m_X10_copy) (pc := 8) (As := [.int x3]) yf_X10_isSheet (by decide +kernel) (ok_X10_isSheet x3 q1.2 _  hq2) tw_1537 tw_1536 rfl rfl (Nat.le_of_ble_eq_true rfl) dX10_copy_8 ?_
    refine V_if_ne (Y := m_X10_copy) (pc := 11) (tgt := 17) dX10_copy_11 (by decide +kernel) hf (fun hf => ?_) (fun hf => ?_)
    · refine V_aload_n (Y := m_X10_copy) (pc := 17) 0 dX10_copy_17 rfl ?_
      refine V_grL (Y := m_X10_copy) (pc := 18) (x := 4) 4 kX10 sM_0 (by decide +kernel) rfl rfl tw_1074 dX10_copy_18 ?_
      refine V_iload_n (Y := m_X10_copy) (pc := 21) 1 dX10_copy_21 rfl ?_
      obtain ⟨hi3, hf⟩ := g_if hf
      refine V_iald (Y := m_X10_copy) (pc := 22) sM_4 hi3 dX10_copy_22 ?_
      refine V_if_lt (Y := m_X10_copy) (pc := 23) (tgt := 35) dX10_copy_23 (by decide +kernel) hf (fun hf => ?_) (fun hf => ?_)
      · exact V_sub [] rfl (ok_X10_copy_b35   q2.2 z  hf)
      · refine V_aload_n (Y := m_X10_copy) (pc := 26) 0 dX10_copy_26 rfl ?_
        refine V_grL (Y := m_X10_copy) (pc := 27) (x := 4) 4 kX10 sM_0 (by decide +kernel) rfl rfl tw_1074 dX10_copy_27 ?_
        refine V_iload_n (Y := m_X10_copy) (pc := 30) 3 dX10_copy_30 rfl ?_
        obtain ⟨hi4, hf⟩ := g_if hf
        refine V_iald (Y := m_X10_copy) (pc := 31) sM_4 hi4 dX10_copy_31 ?_
        refine V_if_ge (Y := m_X10_copy) (pc := 32) (tgt := 39) dX10_copy_32 (by decide +kernel) hf (fun hf => ?_) (fun hf => ?_)
        · refine V_aload_n (Y := m_X10_copy) (pc := 39) 0 dX10_copy_39 rfl ?_
          refine V_grL (Y := m_X10_copy) (pc := 40) (x := 4) 4 kX10 sM_0 (by decide +kernel) rfl rfl tw_1074 dX10_copy_40 ?_
          refine V_iload_n (Y := m_X10_copy) (pc := 43) 1 dX10_copy_43 rfl ?_
          obtain ⟨hi5, hf⟩ := g_if hf
          refine V_iald (Y := m_X10_copy) (pc := 44) sM_4 hi5 dX10_copy_44 ?_
          refine V_aload_n (Y := m_X10_copy) (pc := 45) 0 dX10_copy_45 rfl ?_
          refine V_grL (Y := m_X10_copy) (pc := 46) (x := 4) 4 kX10 sM_0 (by decide +kernel) rfl rfl tw_1074 dX10_copy_46 ?_
          refine V_iload_n (Y := m_X10_copy) (pc := 49) 3 dX10_copy_49 rfl ?_
          obtain ⟨hi6, hf⟩ := g_if hf
          refine V_iald (Y := m_X10_copy) (pc := 50) sM_4 hi6 dX10_copy_50 ?_
          refine V_icmp_eq (Y := m_X10_copy) (pc := 51) (tgt := 57) dX10_copy_51 (by decide +kernel) hf (fun hf => ?_) (fun hf => ?_)
          · refine V_iload_n (Y := m_X10_copy) (pc := 57) 2 dX10_copy_57 rfl ?_
            refine V_if_lt (Y := m_X10_copy) (pc := 58) (tgt := 106) dX10_copy_58 (by decide +kernel) hf (fun hf => ?_) (fun hf => ?_)
            · exact V_sub [] rfl (ok_X10_copy_b106   q2.2 z  hf)
            · refine V_iload (Y := m_X10_copy) (pc := 61) 4 dX10_copy_61 rfl ?_
              refine V_if_lt (Y := m_X10_copy) (pc := 63) (tgt := 106) dX10_copy_63 (by decide +kernel) hf (fun hf => ?_) (fun hf => ?_)
              · exact V_sub [] rfl (ok_X10_copy_b106   q2.2 z  hf)
              · refine V_iload (Y := m_X10_copy) (pc := 66) 5 dX10_copy_66 rfl ?_
                refine V_if_lt (Y := m_X10_copy) (pc := 68) (tgt := 106) dX10_copy_68 (by decide +kernel) hf (fun hf => ?_) (fun hf => ?_)
                · exact V_sub [] rfl (ok_X10_copy_b106   q2.2 z  hf)
                · refine V_iload_n (Y := m_X10_copy) (pc := 71) 2 dX10_copy_71 rfl ?_
                  refine V_i2l (Y := m_X10_copy) (pc := 72) dX10_copy_72 ?_
                  refine V_iload (Y := m_X10_copy) (pc := 73) 5 dX10_copy_73 rfl ?_
                  refine V_i2l (Y := m_X10_copy) (pc := 75) dX10_copy_75 ?_
                  refine V_ladd (Y := m_X10_copy) (pc := 76) dX10_copy_76 ?_
                  refine V_aload_n (Y := m_X10_copy) (pc := 77) 0 dX10_copy_77 rfl ?_
                  refine V_grL (Y := m_X10_copy) (pc := 78) (x := 5) 5 kX10 sM_0 (by decide +kernel) rfl rfl tw_1075 dX10_copy_78 ?_
                  refine V_iload_n (Y := m_X10_copy) (pc := 81) 1 dX10_copy_81 rfl ?_
                  obtain ⟨hi7, hf⟩ := g_if hf
                  refine V_iald (Y := m_X10_copy) (pc := 82) sM_5 hi7 dX10_copy_82 ?_
                  refine V_i2l (Y := m_X10_copy) (pc := 83) dX10_copy_83 ?_
                  refine V_lcmp (Y := m_X10_copy) (pc := 84) dX10_copy_84 ?_
                  refine V_if_gt (Y := m_X10_copy) (pc := 85) (tgt := 106) dX10_copy_85 (by decide +kernel) hf (fun hf => ?_) (fun hf => ?_)
                  · exact V_sub [] rfl (ok_X10_copy_b106   q2.2 z  hf)
                  · refine V_iload (Y := m_X10_copy) (pc := 88) 4 dX10_copy_88 rfl ?_
                    refine V_i2l (Y := m_X10_copy) (pc := 90) dX10_copy_90 ?_
                    refine V_iload (Y := m_X10_copy) (pc := 91) 5 dX10_copy_91 rfl ?_
                    refine V_i2l (Y := m_X10_copy) (pc := 93) dX10_copy_93 ?_
                    refine V_ladd (Y := m_X10_copy) (pc := 94) dX10_copy_94 ?_
                    refine V_aload_n (Y := m_X10_copy) (pc := 95) 0 dX10_copy_95 rfl ?_
                    refine V_grL (Y := m_X10_copy) (pc := 96) (x := 5) 5 kX10 sM_0 (by decide +kernel) rfl rfl tw_1075 dX10_copy_96 ?_
                    refine V_iload_n (Y := m_X10_copy) (pc := 99) 3 dX10_copy_99 rfl ?_
                    obtain ⟨hi8, hf⟩ := g_if hf
                    refine V_iald (Y := m_X10_copy) (pc := 100) sM_5 hi8 dX10_copy_100 ?_
                    refine V_i2l (Y := m_X10_copy) (pc := 101) dX10_copy_101 ?_
                    refine V_lcmp (Y := m_X10_copy) (pc := 102) dX10_copy_102 ?_
                    refine V_if_le (Y := m_X10_copy) (pc := 103) (tgt := 110) dX10_copy_103 (by decide +kernel) hf (fun hf => ?_) (fun hf => ?_)
                    · refine V_iconst (Y := m_X10_copy) (pc := 110) (x := (0 : Int32)) dX10_copy_110 (by decide +kernel) ?_
                      refine V_istore (Y := m_X10_copy) (pc := 111) [(6, .int (0 : Int32)), (0, .ref (b + 0)), (1, .int x1), (2, .int x2), (3, .int x3), (4, .int x4), (5, .int x5)] dX10_copy_111 (by decide +kernel) rfl ?_
                      exact V_sub [1, 2, 3, 4, 5, 6, 0] rfl (ok_X10_copy_b113  FU x1 x2 x3 x4 x5 (0 : Int32) q2.2 z  hf)
                    · exact V_sub [] rfl (ok_X10_copy_b106   q2.2 z  hf)
          · refine V_ldc (Y := m_X10_copy) (pc := 54) (x := (-1000000012 : Int32)) dX10_copy_54 tw_1302 ?_
            obtain rfl := Option.some.inj hf
            exact V_iret (Y := m_X10_copy) rfl dX10_copy_56
        · exact V_sub [] rfl (ok_X10_copy_b35   q2.2 z  hf)
    · refine V_ldc (Y := m_X10_copy) (pc := 14) (x := (-1000000001 : Int32)) dX10_copy_14 tw_1224 ?_
      obtain rfl := Option.some.inj hf
      exact V_iret (Y := m_X10_copy) rfl dX10_copy_16
def f_X10_copy (x1 : Int32) (x2 : Int32) (x3 : Int32) (x4 : Int32) (x5 : Int32) (M : Mem) : Option (Int32 × Mem) := f_X10_copy_b0 x1 x2 x3 x4 x5 M
set_option maxRecDepth 20000 in
set_option maxHeartbeats 4000000 in
theorem ok_X10_copy {l : Launch} {g : Gam} {b : Nat} : ∀ (x1 : Int32) (x2 : Int32) (x3 : Int32) (x4 : Int32) (x5 : Int32) (M : Mem) (z : Int32 × Mem), f_X10_copy x1 x2 x3 x4 x5 M = some z → Cn l g (wM b) m_X10_copy [.ref (b + 0), .int x1, .int x2, .int x3, .int x4, .int x5] M (some (.int z.1)) z.2 := fun x1 x2 x3 x4 x5 M z  hf => Cn_of (by decide +kernel) (Nat.le_of_ble_eq_true rfl) (V_sub [0, 1, 2, 3, 4, 5] rfl (ok_X10_copy_b0 x1 x2 x3 x4 x5 M z  hf))

abbrev m_X10_isSlot : Mth := (yX10_isSlot, cX10_isSlot, 1, some .boolean, 2)
theorem yf_X10_isSlot : YF m_X10_isSlot 1 := ⟨tw_1621, tw_75, by decide +kernel, by decide +kernel⟩
def f_X10_isSlot_b0  (x0 : Int32) (M : Mem) : Option (Int32 × Mem) :=
  (f_X10_isIn x0.toInt64 (0 : Int64) (4 : Int64) M).bind fun q1 =>
  if z01 q1.1 = true then some (q1.1, q1.2) else none
set_option maxRecDepth 20000 in
set_option maxHeartbeats 4000000 in
theorem ok_X10_isSlot_b0 {l : Launch} {g : Gam} {b : Nat}   (x0 : Int32) (M : Mem) (z : Int32 × Mem)  (hf : f_X10_isSlot_b0 x0 M = some z) : V l g (wM b) m_X10_isSlot 0 [(0, .int x0)] [] M (some (.int z.1)) z.2 := by
  unfold f_X10_isSlot_b0 at hf
  refine V_iload_n (Y := m_X10_isSlot) (pc := 0) 0 dX10_isSlot_0 rfl ?_
  refine V_i2l (Y := m_X10_isSlot) (pc := 1) dX10_isSlot_1 ?_
  refine V_lconst (Y := m_X10_isSlot) (pc := 2) (x := (0 : Int64)) dX10_isSlot_2 (by decide +kernel) ?_
  refine V_ldc2 (Y := m_X10_isSlot) (pc := 3) (x := (4 : Int64)) dX10_isSlot_3 tw_1429 ?_
  obtain ⟨q1, hq1, hf⟩ := g_bind hf
  refine V_cSi (Y := m_X10_isSlot) (pc := 6) (As := [.long x0.toInt64, .long (0 : Int64), .long (4 : Int64)]) yf_X10_isIn (by decide +kernel) (ok_X10_isIn x0.toInt64 (0 : Int64) (4 : Int64) M _  hq1) tw_1218 tw_1217 rfl rfl (Nat.le_of_ble_eq_true rfl) dX10_isSlot_6 ?_
  obtain ⟨hz2, hf⟩ := g_if hf
  obtain rfl := Option.some.inj hf
  exact V_zret (Y := m_X10_isSlot) hz2 rfl dX10_isSlot_9
def f_X10_isSlot (x0 : Int32) (M : Mem) : Option (Int32 × Mem) := f_X10_isSlot_b0 x0 M
set_option maxRecDepth 20000 in
set_option maxHeartbeats 4000000 in
theorem ok_X10_isSlot {l : Launch} {g : Gam} {b : Nat} : ∀ (x0 : Int32) (M : Mem) (z : Int32 × Mem), f_X10_isSlot x0 M = some z → Cn l g (wM b) m_X10_isSlot [.int x0] M (some (.int z.1)) z.2 := fun x0 M z  hf => Cn_of (by decide +kernel) (Nat.le_of_ble_eq_true rfl) (V_sub [0] rfl (ok_X10_isSlot_b0 x0 M z  hf))

abbrev m_X10_lay : Mth := (yX10_lay, cX10_lay, 7, some .int, 3)
theorem yf_X10_lay : YF m_X10_lay 3 := ⟨tw_1618, tw_75, by decide +kernel, by decide +kernel⟩
def f_X10_lay_b142  : Nat → Int32 → Int32 → Int32 → Int32 → Mem → Option (Int32 × Mem)
  | 0, _, _, _, _, _ => none
  | n + 1, x1, x3, x5, x6, M =>
    if (24 : Int32) ≤ x6 then
      some (x5, M)
    else
      if ixb (((24 : Int32) * x3) + x6) 96 = true then
      if ixb (((24 : Int32) * x1) + x6) 120 = true then
      f_X10_lay_b142  n x1 x3 x5 (x6 + (1 : Int32)) (mset M 11 (ix (((24 : Int32) * x1) + x6)) (M 6 (ix (((24 : Int32) * x3) + x6))))
      else none
      else none
set_option maxRecDepth 20000 in
set_option maxHeartbeats 4000000 in
theorem ok_X10_lay_b142 {l : Launch} {g : Gam} {b : Nat}   : ∀ (n : Nat) (x1 : Int32) (x3 : Int32) (x5 : Int32) (x6 : Int32) (M : Mem) (z : Int32 × Mem), f_X10_lay_b142  n x1 x3 x5 x6 M = some z → V l g (wM b) m_X10_lay 142 [(0, .ref (b + 0)), (1, .int x1), (3, .int x3), (5, .int x5), (6, .int x6)] [] M (some (.int z.1)) z.2 := by
  intro n
  induction n with
  | zero =>
    intro x1 x3 x5 x6 M z  hf
    cases hf
  | succ n ih =>
    intro x1 x3 x5 x6 M z  hf
    rw [f_X10_lay_b142] at hf
    refine V_iload (Y := m_X10_lay) (pc := 142) 4 dX10_lay_142 rfl ?_
    refine V_bipush (Y := m_X10_lay) (pc := 144) (x := (24 : Int32)) dX10_lay_144 (by decide +kernel) ?_
    refine V_icmp_ge (Y := m_X10_lay) (pc := 146) (tgt := 179) dX10_lay_146 (by decide +kernel) hf (fun hf => ?_) (fun hf => ?_)
    · refine V_iload (Y := m_X10_lay) (pc := 179) 3 dX10_lay_179 rfl ?_
      obtain rfl := Option.some.inj hf
      exact V_iret (Y := m_X10_lay) rfl dX10_lay_181
    · refine V_aload_n (Y := m_X10_lay) (pc := 149) 0 dX10_lay_149 rfl ?_
      refine V_grL (Y := m_X10_lay) (pc := 150) (x := 11) 11 kX10 sM_0 (by decide +kernel) rfl rfl tw_1081 dX10_lay_150 ?_
      refine V_bipush (Y := m_X10_lay) (pc := 153) (x := (24 : Int32)) dX10_lay_153 (by decide +kernel) ?_
      refine V_iload_n (Y := m_X10_lay) (pc := 155) 1 dX10_lay_155 rfl ?_
      refine V_imul (Y := m_X10_lay) (pc := 156) dX10_lay_156 ?_
      refine V_iload (Y := m_X10_lay) (pc := 157) 4 dX10_lay_157 rfl ?_
      refine V_iadd (Y := m_X10_lay) (pc := 159) dX10_lay_159 ?_
      refine V_aload_n (Y := m_X10_lay) (pc := 160) 0 dX10_lay_160 rfl ?_
      refine V_grL (Y := m_X10_lay) (pc := 161) (x := 6) 6 kX10 sM_0 (by decide +kernel) rfl rfl tw_1076 dX10_lay_161 ?_
      refine V_bipush (Y := m_X10_lay) (pc := 164) (x := (24 : Int32)) dX10_lay_164 (by decide +kernel) ?_
      refine V_iload_n (Y := m_X10_lay) (pc := 166) 2 dX10_lay_166 rfl ?_
      refine V_imul (Y := m_X10_lay) (pc := 167) dX10_lay_167 ?_
      refine V_iload (Y := m_X10_lay) (pc := 168) 4 dX10_lay_168 rfl ?_
      refine V_iadd (Y := m_X10_lay) (pc := 170) dX10_lay_170 ?_
      obtain ⟨hi1, hf⟩ := g_if hf
      refine V_iald (Y := m_X10_lay) (pc := 171) sM_6 hi1 dX10_lay_171 ?_
      obtain ⟨hi2, hf⟩ := g_if hf
      refine V_iast (Y := m_X10_lay) (pc := 172) sM_11 hi2 dX10_lay_172 ?_
      refine V_iinc (Y := m_X10_lay) (pc := 173) (y := (x6 + (1 : Int32))) 4 [(6, .int (x6 + (1 : Int32))), (0, .ref (b + 0)), (1, .int x1), (3, .int x3), (5, .int x5)] dX10_lay_173 rfl rfl (by decide +kernel) rfl ?_
      refine V_goto (Y := m_X10_lay) (pc := 176) (tgt := 142) dX10_lay_176 (by decide +kernel) ?_
      exact V_sub [1, 2, 3, 4, 0] rfl (ih x1 x3 x5 (x6 + (1 : Int32)) (mset M 11 (ix (((24 : Int32) * x1) + x6)) (M 6 (ix (((24 : Int32) * x3) + x6)))) z  hf)
def f_X10_lay_bc139_1  (x1 : Int32) (x3 : Int32) (x5 : Int32) (M : Mem) : Option (Int32 × Mem) :=
  f_X10_lay_b142  FU x1 x3 x5 (0 : Int32) M
set_option maxRecDepth 20000 in
set_option maxHeartbeats 4000000 in
theorem ok_X10_lay_bc139_1 {l : Launch} {g : Gam} {b : Nat}   (x1 : Int32) (x3 : Int32) (x5 : Int32) (M : Mem) (z : Int32 × Mem)  (hf : f_X10_lay_bc139_1 x1 x3 x5 M = some z) : V l g (wM b) m_X10_lay 139 [(0, .ref (b + 0)), (1, .int x1), (3, .int x3), (5, .int x5)] [] M (some (.int z.1)) z.2 := by
  unfold f_X10_lay_bc139_1 at hf
  refine V_iconst (Y := m_X10_lay) (pc := 139) (x := (0 : Int32)) dX10_lay_139 (by decide +kernel) ?_
  refine V_istore (Y := m_X10_lay) (pc := 140) [(6, .int (0 : Int32)), (0, .ref (b + 0)), (1, .int x1), (3, .int x3), (5, .int x5)] dX10_lay_140 (by decide +kernel) rfl ?_
  exact V_sub [1, 2, 3, 4, 0] rfl (ok_X10_lay_b142  FU x1 x3 x5 (0 : Int32) M z  hf)
def f_X10_lay_b109  (x1 : Int32) (x2 : Int32) (x3 : Int32) (x5 : Int32) (s0 : Int32) (s1 : Int32) (M : Mem) : Option (Int32 × Mem) :=
  if ixb s1 5 = true then
  if x2 = (2 : Int32) then
    if ixb x3 4 = true then
    if ixb x1 5 = true then
    if ixb x3 4 = true then
    if ixb x1 5 = true then
    f_X10_lay_bc139_1  x1 x3 x5 (mset (mset (mset M 8 (ix s1) s0) 9 (ix x1) ((mset M 8 (ix s1) s0) 4 (ix x3))) 10 (ix x1) ((mset (mset M 8 (ix s1) s0) 9 (ix x1) ((mset M 8 (ix s1) s0) 4 (ix x3))) 5 (ix x3)))
    else none
    else none
    else none
    else none
  else
    some (x5, (mset M 8 (ix s1) s0))
  else none
set_option maxRecDepth 20000 in
set_option maxHeartbeats 4000000 in
theorem ok_X10_lay_b109 {l : Launch} {g : Gam} {b : Nat}   (x1 : Int32) (x2 : Int32) (x3 : Int32) (x5 : Int32) (s0 : Int32) (s1 : Int32) (M : Mem) (z : Int32 × Mem)  (hf : f_X10_lay_b109 x1 x2 x3 x5 s0 s1 M = some z) : V l g (wM b) m_X10_lay 109 [(0, .ref (b + 0)), (1, .int x1), (2, .int x2), (3, .int x3), (5, .int x5)] [.int s0, .int s1, .ref (b + 8)] M (some (.int z.1)) z.2 := by
  unfold f_X10_lay_b109 at hf
  obtain ⟨hi1, hf⟩ := g_if hf
  refine V_iast (Y := m_X10_lay) (pc := 109) sM_8 hi1 dX10_lay_109 ?_
  refine V_iload_n (Y := m_X10_lay) (pc := 110) 2 dX10_lay_110 rfl ?_
  refine V_iconst (Y := m_X10_lay) (pc := 111) (x := (2 : Int32)) dX10_lay_111 (by decide +kernel) ?_
  refine V_icmp_ne (Y := m_X10_lay) (pc := 112) (tgt := 179) dX10_lay_112 (by decide +kernel) hf (fun hf => ?_) (fun hf => ?_)
  · refine V_iload (Y := m_X10_lay) (pc := 179) 4 dX10_lay_179 rfl ?_
    obtain rfl := Option.some.inj hf
    exact V_iret (Y := m_X10_lay) rfl dX10_lay_181
  · refine V_aload_n (Y := m_X10_lay) (pc := 115) 0 dX10_lay_115 rfl ?_
    refine V_grL (Y := m_X10_lay) (pc := 116) (x := 9) 9 kX10 sM_0 (by decide +kernel) rfl rfl tw_1079 dX10_lay_116 ?_
    refine V_iload_n (Y := m_X10_lay) (pc := 119) 1 dX10_lay_119 rfl ?_
    refine V_aload_n (Y := m_X10_lay) (pc := 120) 0 dX10_lay_120 rfl ?_
    refine V_grL (Y := m_X10_lay) (pc := 121) (x := 4) 4 kX10 sM_0 (by decide +kernel) rfl rfl tw_1074 dX10_lay_121 ?_
    refine V_iload_n (Y := m_X10_lay) (pc := 124) 3 dX10_lay_124 rfl ?_
    obtain ⟨hi2, hf⟩ := g_if hf
    refine V_iald (Y := m_X10_lay) (pc := 125) sM_4 hi2 dX10_lay_125 ?_
    obtain ⟨hi3, hf⟩ := g_if hf
    refine V_iast (Y := m_X10_lay) (pc := 126) sM_9 hi3 dX10_lay_126 ?_
    refine V_aload_n (Y := m_X10_lay) (pc := 127) 0 dX10_lay_127 rfl ?_
    refine V_grL (Y := m_X10_lay) (pc := 128) (x := 10) 10 kX10 sM_0 (by decide +kernel) rfl rfl tw_1080 dX10_lay_128 ?_
    refine V_iload_n (Y := m_X10_lay) (pc := 131) 1 dX10_lay_131 rfl ?_
    refine V_aload_n (Y := m_X10_lay) (pc := 132) 0 dX10_lay_132 rfl ?_
    refine V_grL (Y := m_X10_lay) (pc := 133) (x := 5) 5 kX10 sM_0 (by decide +kernel) rfl rfl tw_1075 dX10_lay_133 ?_
    refine V_iload_n (Y := m_X10_lay) (pc := 136) 3 dX10_lay_136 rfl ?_
    obtain ⟨hi4, hf⟩ := g_if hf
    refine V_iald (Y := m_X10_lay) (pc := 137) sM_5 hi4 dX10_lay_137 ?_
    obtain ⟨hi5, hf⟩ := g_if hf
    refine V_iast (Y := m_X10_lay) (pc := 138) sM_10 hi5 dX10_lay_138 ?_
    exact V_sub [0, 1, 3, 4] rfl (ok_X10_lay_bc139_1  x1 x3 x5 (mset (mset (mset M 8 (ix s1) s0) 9 (ix x1) ((mset M 8 (ix s1) s0) 4 (ix x3))) 10 (ix x1) ((mset (mset M 8 (ix s1) s0) 9 (ix x1) ((mset M 8 (ix s1) s0) 4 (ix x3))) 5 (ix x3))) z  hf)
def f_X10_lay_b74  (x1 : Int32) (x2 : Int32) (x3 : Int32) (M : Mem) : Option (Int32 × Mem) :=
  if ixb x1 5 = true then
  if ixb x1 5 = true then
  if x2 = (1 : Int32) then
    (f_X10_field x3 (0 : Int32) (mset M 7 (ix x1) x2)).bind fun q3 =>
    f_X10_lay_b109  x1 x2 x3 (M 7 (ix x1)) q3.1 x1 q3.2
  else
    f_X10_lay_b109  x1 x2 x3 (M 7 (ix x1)) x3 x1 (mset M 7 (ix x1) x2)
  else none
  else none
set_option maxRecDepth 20000 in
set_option maxHeartbeats 4000000 in
theorem ok_X10_lay_b74 {l : Launch} {g : Gam} {b : Nat}   (x1 : Int32) (x2 : Int32) (x3 : Int32) (M : Mem) (z : Int32 × Mem)  (hf : f_X10_lay_b74 x1 x2 x3 M = some z) : V l g (wM b) m_X10_lay 74 [(0, .ref (b + 0)), (1, .int x1), (2, .int x2), (3, .int x3)] [] M (some (.int z.1)) z.2 := by
  unfold f_X10_lay_b74 at hf
  refine V_aload_n (Y := m_X10_lay) (pc := 74) 0 dX10_lay_74 rfl ?_
  refine V_grL (Y := m_X10_lay) (pc := 75) (x := 7) 7 kX10 sM_0 (by decide +kernel) rfl rfl tw_1077 dX10_lay_75 ?_
  refine V_iload_n (Y := m_X10_lay) (pc := 78) 1 dX10_lay_78 rfl ?_
  obtain ⟨hi1, hf⟩ := g_if hf
  refine V_iald (Y := m_X10_lay) (pc := 79) sM_7 hi1 dX10_lay_79 ?_
  refine V_istore (Y := m_X10_lay) (pc := 80) [(5, .int (M 7 (ix x1))), (0, .ref (b + 0)), (1, .int x1), (2, .int x2), (3, .int x3)] dX10_lay_80 (by decide +kernel) rfl ?_
  refine V_aload_n (Y := m_X10_lay) (pc := 82) 1 dX10_lay_82 rfl ?_
  refine V_grL (Y := m_X10_lay) (pc := 83) (x := 7) 7 kX10 sM_0 (by decide +kernel) rfl rfl tw_1077 dX10_lay_83 ?_
  refine V_iload_n (Y := m_X10_lay) (pc := 86) 2 dX10_lay_86 rfl ?_
  refine V_iload_n (Y := m_X10_lay) (pc := 87) 3 dX10_lay_87 rfl ?_
  obtain ⟨hi2, hf⟩ := g_if hf
  refine V_iast (Y := m_X10_lay) (pc := 88) sM_7 hi2 dX10_lay_88 ?_
  refine V_aload_n (Y := m_X10_lay) (pc := 89) 1 dX10_lay_89 rfl ?_
  refine V_grL (Y := m_X10_lay) (pc := 90) (x := 8) 8 kX10 sM_0 (by decide +kernel) rfl rfl tw_1078 dX10_lay_90 ?_
  refine V_iload_n (Y := m_X10_lay) (pc := 93) 2 dX10_lay_93 rfl ?_
  refine V_iload_n (Y := m_X10_lay) (pc := 94) 3 dX10_lay_94 rfl ?_
  refine V_iconst (Y := m_X10_lay) (pc := 95) (x := (1 : Int32)) dX10_lay_95 (by decide +kernel) ?_
  refine V_icmp_ne (Y := m_X10_lay) (pc := 96) (tgt := 108) dX10_lay_96 (by decide +kernel) hf (fun hf => ?_) (fun hf => ?_)
  · refine V_iload_n (Y := m_X10_lay) (pc := 108) 4 dX10_lay_108 rfl ?_
    exact V_sub [1, 2, 3, 4, 0] rfl (ok_X10_lay_b109  x1 x2 x3 (M 7 (ix x1)) x3 x1 (mset M 7 (ix x1) x2) z  hf)
  · refine V_aload_n (Y := m_X10_lay) (pc := 99) 1 dX10_lay_99 rfl ?_
    refine V_iload_n (Y := m_X10_lay) (pc := 100) 4 dX10_lay_100 rfl ?_
    refine V_iconst (Y := m_X10_lay) (pc := 101) (x := (0 : Int32)) dX10_lay_101 (by decide +kernel) ?_
    obtain ⟨q3, hq3, hf⟩ := g_bind hf
    refine V_cVi (Y := m_X10_lay) (pc := 102) (As := [.int x3, .int (0 : Int32)]) yf_X10_field kX10 sM_0 (by decide +kernel) (ok_X10_field x3 (0 : Int32) (mset M 7 (ix x1) x2) _  hq3) tw_1244 tw_20 tw_1242 rfl rfl (Nat.le_of_ble_eq_true rfl) dX10_lay_102 ?_
    refine V_goto (Y := m_X10_lay) (pc := 105) (tgt := 109) dX10_lay_105 (by decide +kernel) ?_
    exact V_sub [1, 2, 3, 4, 0] rfl (ok_X10_lay_b109  x1 x2 x3 (M 7 (ix x1)) q3.1 x1 q3.2 z  hf)
def f_X10_lay_b39  (x1 : Int32) (x2 : Int32) (x3 : Int32) (s0 : Int32) (M : Mem) : Option (Int32 × Mem) :=
  (f_X10_isSlot x1 M).bind fun q1 =>
  if q1.1 = 0 then
    some ((-1000000001 : Int32), q1.2)
  else
    if s0 = 0 then
      some ((-1000000001 : Int32), q1.2)
    else
      if x2 = (2 : Int32) then
        if ixb x3 4 = true then
        if 0 ≤ (q1.2 4 (ix x3)) then
          f_X10_lay_b74  x1 x2 x3 q1.2
        else
          some ((-1000000011 : Int32), q1.2)
        else none
      else
        f_X10_lay_b74  x1 x2 x3 q1.2
set_option maxRecDepth 20000 in
set_option maxHeartbeats 4000000 in
theorem ok_X10_lay_b39 {l : Launch} {g : Gam} {b : Nat}   (x1 : Int32) (x2 : Int32) (x3 : Int32) (s0 : Int32) (M : Mem) (z : Int32 × Mem)  (hf : f_X10_lay_b39 x1 x2 x3 s0 M = some z) : V l g (wM b) m_X10_lay 39 [(0, .ref (b + 0)), (1, .int x1), (2, .int x2), (3, .int x3)] [.int s0] M (some (.int z.1)) z.2 := by
  unfold f_X10_lay_b39 at hf
  refine V_istore (Y := m_X10_lay) (pc := 39) [(4, .int s0), (0, .ref (b + 0)), (1, .int x1), (2, .int x2), (3, .int x3)] dX10_lay_39 (by decide +kernel) rfl ?_
  refine V_iload_n (Y := m_X10_lay) (pc := 41) 2 dX10_lay_41 rfl ?_
  obtain ⟨q1, hq1, hf⟩ := g_bind hf
  refine V_cSi (Y := m_X10_lay) (pc := 42) (As := [.int x1]) yf_X10_isSlot (by decide +kernel) (ok_X10_isSlot x1 M _  hq1) tw_1620 tw_1619 rfl rfl (Nat.le_of_ble_eq_true rfl) dX10_lay_42 ?_
  refine V_if_eq (Y := m_X10_lay) (pc := 45) (tgt := 53) dX10_lay_45 (by decide +kernel) hf (fun hf => ?_) (fun hf => ?_)
  · refine V_ldc (Y := m_X10_lay) (pc := 53) (x := (-1000000001 : Int32)) dX10_lay_53 tw_1224 ?_
    obtain rfl := Option.some.inj hf
    exact V_iret (Y := m_X10_lay) rfl dX10_lay_55
  · refine V_iload (Y := m_X10_lay) (pc := 48) 0 dX10_lay_48 rfl ?_
    refine V_if_ne (Y := m_X10_lay) (pc := 50) (tgt := 56) dX10_lay_50 (by decide +kernel) hf (fun hf => ?_) (fun hf => ?_)
    · refine V_iload_n (Y := m_X10_lay) (pc := 56) 3 dX10_lay_56 rfl ?_
      refine V_iconst (Y := m_X10_lay) (pc := 57) (x := (2 : Int32)) dX10_lay_57 (by decide +kernel) ?_
      refine V_icmp_ne (Y := m_X10_lay) (pc := 58) (tgt := 74) dX10_lay_58 (by decide +kernel) hf (fun hf => ?_) (fun hf => ?_)
      · exact V_sub [1, 2, 3, 4] rfl (ok_X10_lay_b74  x1 x2 x3 q1.2 z  hf)
      · refine V_aload_n (Y := m_X10_lay) (pc := 61) 1 dX10_lay_61 rfl ?_
        refine V_grL (Y := m_X10_lay) (pc := 62) (x := 4) 4 kX10 sM_0 (by decide +kernel) rfl rfl tw_1074 dX10_lay_62 ?_
        refine V_iload_n (Y := m_X10_lay) (pc := 65) 4 dX10_lay_65 rfl ?_
        obtain ⟨hi2, hf⟩ := g_if hf
        refine V_iald (Y := m_X10_lay) (pc := 66) sM_4 hi2 dX10_lay_66 ?_
        refine V_if_ge (Y := m_X10_lay) (pc := 67) (tgt := 74) dX10_lay_67 (by decide +kernel) hf (fun hf => ?_) (fun hf => ?_)
        · exact V_sub [1, 2, 3, 4] rfl (ok_X10_lay_b74  x1 x2 x3 q1.2 z  hf)
        · refine V_ldcw (Y := m_X10_lay) (pc := 70) (x := (-1000000011 : Int32)) dX10_lay_70 tw_1539 ?_
          obtain rfl := Option.some.inj hf
          exact V_iret (Y := m_X10_lay) rfl dX10_lay_73
    · refine V_ldc (Y := m_X10_lay) (pc := 53) (x := (-1000000001 : Int32)) dX10_lay_53 tw_1224 ?_
      obtain rfl := Option.some.inj hf
      exact V_iret (Y := m_X10_lay) rfl dX10_lay_55
def f_X10_lay_b34  (x1 : Int32) (x2 : Int32) (x3 : Int32) (M : Mem) : Option (Int32 × Mem) :=
  f_X10_lay_b39  x1 x2 x3 (1 : Int32) M
set_option maxRecDepth 20000 in
set_option maxHeartbeats 4000000 in
theorem ok_X10_lay_b34 {l : Launch} {g : Gam} {b : Nat}   (x1 : Int32) (x2 : Int32) (x3 : Int32) (M : Mem) (z : Int32 × Mem)  (hf : f_X10_lay_b34 x1 x2 x3 M = some z) : V l g (wM b) m_X10_lay 34 [(0, .ref (b + 0)), (1, .int x1), (2, .int x2), (3, .int x3)] [] M (some (.int z.1)) z.2 := by
  unfold f_X10_lay_b34 at hf
  refine V_iconst (Y := m_X10_lay) (pc := 34) (x := (1 : Int32)) dX10_lay_34 (by decide +kernel) ?_
  refine V_goto (Y := m_X10_lay) (pc := 35) (tgt := 39) dX10_lay_35 (by decide +kernel) ?_
  exact V_sub [0, 1, 2, 3] rfl (ok_X10_lay_b39  x1 x2 x3 (1 : Int32) M z  hf)
def f_X10_lay_b38  (x1 : Int32) (x2 : Int32) (x3 : Int32) (M : Mem) : Option (Int32 × Mem) :=
  f_X10_lay_b39  x1 x2 x3 (0 : Int32) M
set_option maxRecDepth 20000 in
set_option maxHeartbeats 4000000 in
theorem ok_X10_lay_b38 {l : Launch} {g : Gam} {b : Nat}   (x1 : Int32) (x2 : Int32) (x3 : Int32) (M : Mem) (z : Int32 × Mem)  (hf : f_X10_lay_b38 x1 x2 x3 M = some z) : V l g (wM b) m_X10_lay 38 [(0, .ref (b + 0)), (1, .int x1), (2, .int x2), (3, .int x3)] [] M (some (.int z.1)) z.2 := by
  unfold f_X10_lay_b38 at hf
  refine V_iconst (Y := m_X10_lay) (pc := 38) (x := (0 : Int32)) dX10_lay_38 (by decide +kernel) ?_
  exact V_sub [0, 1, 2, 3] rfl (ok_X10_lay_b39  x1 x2 x3 (0 : Int32) M z  hf)
def f_X10_lay_b22  (x1 : Int32) (x2 : Int32) (x3 : Int32) (M : Mem) : Option (Int32 × Mem) :=
  if x2 = (2 : Int32) then
    (f_X10_isSheet x3 M).bind fun q1 =>
    if q1.1 = 0 then
      f_X10_lay_b38  x1 x2 x3 q1.2
    else
      f_X10_lay_b34  x1 x2 x3 q1.2
  else
    f_X10_lay_b38  x1 x2 x3 M
set_option maxRecDepth 20000 in
set_option maxHeartbeats 4000000 in
theorem ok_X10_lay_b22 {l : Launch} {g : Gam} {b : Nat}   (x1 : Int32) (x2 : Int32) (x3 : Int32) (M : Mem) (z : Int32 × Mem)  (hf : f_X10_lay_b22 x1 x2 x3 M = some z) : V l g (wM b) m_X10_lay 22 [(0, .ref (b + 0)), (1, .int x1), (2, .int x2), (3, .int x3)] [] M (some (.int z.1)) z.2 := by
  unfold f_X10_lay_b22 at hf
  refine V_iload_n (Y := m_X10_lay) (pc := 22) 2 dX10_lay_22 rfl ?_
  refine V_iconst (Y := m_X10_lay) (pc := 23) (x := (2 : Int32)) dX10_lay_23 (by decide +kernel) ?_
  refine V_icmp_ne (Y := m_X10_lay) (pc := 24) (tgt := 38) dX10_lay_24 (by decide +kernel) hf (fun hf => ?_) (fun hf => ?_)
  · exact V_sub [0, 1, 2, 3] rfl (ok_X10_lay_b38  x1 x2 x3 M z  hf)
  · refine V_iload_n (Y := m_X10_lay) (pc := 27) 3 dX10_lay_27 rfl ?_
    obtain ⟨q1, hq1, hf⟩ := g_bind hf
    refine V_cSi (Y := m_X10_lay) (pc := 28) (As := [.int x3]) yf_X10_isSheet (by decide +kernel) (ok_X10_isSheet x3 M _  hq1) tw_1537 tw_1536 rfl rfl (Nat.le_of_ble_eq_true rfl) dX10_lay_28 ?_
    refine V_if_eq (Y := m_X10_lay) (pc := 31) (tgt := 38) dX10_lay_31 (by decide +kernel) hf (fun hf => ?_) (fun hf => ?_)
    · exact V_sub [0, 1, 2, 3] rfl (ok_X10_lay_b38  x1 x2 x3 q1.2 z  hf)
    · exact V_sub [0, 1, 2, 3] rfl (ok_X10_lay_b34  x1 x2 x3 q1.2 z  hf)
def f_X10_lay_b0  (x1 : Int32) (x2 : Int32) (x3 : Int32) (M : Mem) : Option (Int32 × Mem) :=
  if x2 = 0 then
    f_X10_lay_b34  x1 x2 x3 M
  else
    if x2 = (3 : Int32) then
      f_X10_lay_b34  x1 x2 x3 M
    else
      if x2 = (1 : Int32) then
        (f_X10_isMark x3 M).bind fun q1 =>
        if q1.1 = 0 then
          f_X10_lay_b22  x1 x2 x3 q1.2
        else
          f_X10_lay_b34  x1 x2 x3 q1.2
      else
        f_X10_lay_b22  x1 x2 x3 M
set_option maxRecDepth 20000 in
set_option maxHeartbeats 4000000 in
theorem ok_X10_lay_b0 {l : Launch} {g : Gam} {b : Nat}   (x1 : Int32) (x2 : Int32) (x3 : Int32) (M : Mem) (z : Int32 × Mem)  (hf : f_X10_lay_b0 x1 x2 x3 M = some z) : V l g (wM b) m_X10_lay 0 [(0, .ref (b + 0)), (1, .int x1), (2, .int x2), (3, .int x3)] [] M (some (.int z.1)) z.2 := by
  unfold f_X10_lay_b0 at hf
  refine V_iload_n (Y := m_X10_lay) (pc := 0) 2 dX10_lay_0 rfl ?_
  refine V_if_eq (Y := m_X10_lay) (pc := 1) (tgt := 34) dX10_lay_1 (by decide +kernel) hf (fun hf => ?_) (fun hf => ?_)
  · exact V_sub [0, 1, 2, 3] rfl (ok_X10_lay_b34  x1 x2 x3 M z  hf)
  · refine V_iload_n (Y := m_X10_lay) (pc := 4) 2 dX10_lay_4 rfl ?_
    refine V_iconst (Y := m_X10_lay) (pc := 5) (x := (3 : Int32)) dX10_lay_5 (by decide +kernel) ?_
    refine V_icmp_eq (Y := m_X10_lay) (pc := 6) (tgt := 34) dX10_lay_6 (by decide +kernel) hf (fun hf => ?_) (fun hf => ?_)
    · exact V_sub [0, 1, 2, 3] rfl (ok_X10_lay_b34  x1 x2 x3 M z  hf)
    · refine V_iload_n (Y := m_X10_lay) (pc := 9) 2 dX10_lay_9 rfl ?_
      refine V_iconst (Y := m_X10_lay) (pc := 10) (x := (1 : Int32)) dX10_lay_10 (by decide +kernel) ?_
      refine V_icmp_ne (Y := m_X10_lay) (pc := 11) (tgt := 22) dX10_lay_11 (by decide +kernel) hf (fun hf => ?_) (fun hf => ?_)
      · exact V_sub [0, 1, 2, 3] rfl (ok_X10_lay_b22  x1 x2 x3 M z  hf)
      · refine V_aload_n (Y := m_X10_lay) (pc := 14) 0 dX10_lay_14 rfl ?_
        refine V_iload_n (Y := m_X10_lay) (pc := 15) 3 dX10_lay_15 rfl ?_
        obtain ⟨q1, hq1, hf⟩ := g_bind hf
        refine V_cVi (Y := m_X10_lay) (pc := 16) (As := [.int x3]) yf_X10_isMark kX10 sM_0 (by decide +kernel) (ok_X10_isMark x3 M _  hq1) tw_1240 tw_19 tw_1238 rfl rfl (Nat.le_of_ble_eq_true rfl) dX10_lay_16 ?_
        refine V_if_ne (Y := m_X10_lay) (pc := 19) (tgt := 34) dX10_lay_19 (by decide +kernel) hf (fun hf => ?_) (fun hf => ?_)
        · exact V_sub [0, 1, 2, 3] rfl (ok_X10_lay_b34  x1 x2 x3 q1.2 z  hf)
        · exact V_sub [0, 1, 2, 3] rfl (ok_X10_lay_b22  x1 x2 x3 q1.2 z  hf)
def f_X10_lay (x1 : Int32) (x2 : Int32) (x3 : Int32) (M : Mem) : Option (Int32 × Mem) := f_X10_lay_b0 x1 x2 x3 M
set_option maxRecDepth 20000 in
set_option maxHeartbeats 4000000 in
theorem ok_X10_lay {l : Launch} {g : Gam} {b : Nat} : ∀ (x1 : Int32) (x2 : Int32) (x3 : Int32) (M : Mem) (z : Int32 × Mem), f_X10_lay x1 x2 x3 M = some z → Cn l g (wM b) m_X10_lay [.ref (b + 0), .int x1, .int x2, .int x3] M (some (.int z.1)) z.2 := fun x1 x2 x3 M z  hf => Cn_of (by decide +kernel) (Nat.le_of_ble_eq_true rfl) (V_sub [0, 1, 2, 3] rfl (ok_X10_lay_b0 x1 x2 x3 M z  hf))

abbrev m_X10_ask : Mth := (yX10_ask, cX10_ask, 3, some .int, 3)
theorem yf_X10_ask : YF m_X10_ask 2 := ⟨tw_1625, tw_75, by decide +kernel, by decide +kernel⟩
def f_X10_ask_b0  (x1 : Int32) (x2 : Int32) (M : Mem) : Option (Int32 × Mem) :=
  (f_X10_isSlot x1 M).bind fun q1 =>
  if q1.1 = 0 then
    some ((-1000000001 : Int32), q1.2)
  else
    (f_X10_isIn x2.toInt64 (0 : Int64) (7 : Int64) q1.2).bind fun q2 =>
    if q2.1 = 0 then
      some ((-1000000001 : Int32), q2.2)
    else
      if ixb x1 5 = true then
      if (q2.2 7 (ix x1)) = 0 then
        some ((-1000000011 : Int32), q2.2)
      else
        if ixb x1 5 = true then
        if (q2.2 7 (ix x1)) = (1 : Int32) then
          if ixb x1 5 = true then
          (f_X10_isOf (q2.2 8 (ix x1)) x2 q2.2).bind fun q6 =>
          if q6.1 = 0 then
            some ((-1000000012 : Int32), q6.2)
          else
            if ixb x1 5 = true then
            (f_X10_worthOf (q6.2 8 (ix x1)) q6.2).bind fun q8 =>
            some (q8.1, q8.2)
            else none
          else none
        else
          some ((-1000000012 : Int32), q2.2)
        else none
      else none
set_option maxRecDepth 20000 in
set_option maxHeartbeats 4000000 in
theorem ok_X10_ask_b0 {l : Launch} {g : Gam} {b : Nat}   (x1 : Int32) (x2 : Int32) (M : Mem) (z : Int32 × Mem)  (hf : f_X10_ask_b0 x1 x2 M = some z) : V l g (wM b) m_X10_ask 0 [(0, .ref (b + 0)), (1, .int x1), (2, .int x2)] [] M (some (.int z.1)) z.2 := by
  unfold f_X10_ask_b0 at hf
  refine V_iload_n (Y := m_X10_ask) (pc := 0) 1 dX10_ask_0 rfl ?_
  obtain ⟨q1, hq1, hf⟩ := g_bind hf
  refine V_cSi (Y := m_X10_ask) (pc := 1) (As := [.int x1]) yf_X10_isSlot (by decide +kernel) (ok_X10_isSlot x1 M _  hq1) tw_1620 tw_1619 rfl rfl (Nat.le_of_ble_eq_true rfl) dX10_ask_1 ?_
  refine V_if_eq (Y := m_X10_ask) (pc := 4) (tgt := 19) dX10_ask_4 (by decide +kernel) hf (fun hf => ?_) (fun hf => ?_)
  · refine V_ldc (Y := m_X10_ask) (pc := 19) (x := (-1000000001 : Int32)) dX10_ask_19 tw_1224 ?_
    obtain rfl := Option.some.inj hf
    exact V_iret (Y := m_X10_ask) rfl dX10_ask_21
  · refine V_iload_n (Y := m_X10_ask) (pc := 7) 2 dX10_ask_7 rfl ?_
    refine V_i2l (Y := m_X10_ask) (pc := 8) dX10_ask_8 ?_
    refine V_lconst (Y := m_X10_ask) (pc := 9) (x := (0 : Int64)) dX10_ask_9 (by decide +kernel) ?_
    refine V_ldc2 (Y := m_X10_ask) (pc := 10) (x := (7 : Int64)) dX10_ask_10 tw_1216 ?_
    obtain ⟨q2, hq2, hf⟩ := g_bind hf
    refine V_cSi (Y := m_X10_ask) (pc := 13) (As := [.long x2.toInt64, .long (0 : Int64), .long (7 : Int64)]) yf_X10_isIn (by decide +kernel) (ok_X10_isIn x2.toInt64 (0 : Int64) (7 : Int64) q1.2 _  hq2) tw_1218 tw_1217 rfl rfl (Nat.le_of_ble_eq_true rfl) dX10_ask_13 ?_
    refine V_if_ne (Y := m_X10_ask) (pc := 16) (tgt := 22) dX10_ask_16 (by decide +kernel) hf (fun hf => ?_) (fun hf => ?_)
    · refine V_aload_n (Y := m_X10_ask) (pc := 22) 0 dX10_ask_22 rfl ?_
      refine V_grL (Y := m_X10_ask) (pc := 23) (x := 7) 7 kX10 sM_0 (by decide +kernel) rfl rfl tw_1077 dX10_ask_23 ?_
      refine V_iload_n (Y := m_X10_ask) (pc := 26) 1 dX10_ask_26 rfl ?_
      obtain ⟨hi3, hf⟩ := g_if hf
      refine V_iald (Y := m_X10_ask) (pc := 27) sM_7 hi3 dX10_ask_27 ?_
      refine V_if_ne (Y := m_X10_ask) (pc := 28) (tgt := 35) dX10_ask_28 (by decide +kernel) hf (fun hf => ?_) (fun hf => ?_)
      · refine V_aload_n (Y := m_X10_ask) (pc := 35) 0 dX10_ask_35 rfl ?_
        refine V_grL (Y := m_X10_ask) (pc := 36) (x := 7) 7 kX10 sM_0 (by decide +kernel) rfl rfl tw_1077 dX10_ask_36 ?_
        refine V_iload_n (Y := m_X10_ask) (pc := 39) 1 dX10_ask_39 rfl ?_
        obtain ⟨hi4, hf⟩ := g_if hf
        refine V_iald (Y := m_X10_ask) (pc := 40) sM_7 hi4 dX10_ask_40 ?_
        refine V_iconst (Y := m_X10_ask) (pc := 41) (x := (1 : Int32)) dX10_ask_41 (by decide +kernel) ?_
        refine V_icmp_ne (Y := m_X10_ask) (pc := 42) (tgt := 70) dX10_ask_42 (by decide +kernel) hf (fun hf => ?_) (fun hf => ?_)
        · refine V_ldc (Y := m_X10_ask) (pc := 70) (x := (-1000000012 : Int32)) dX10_ask_70 tw_1302 ?_
          obtain rfl := Option.some.inj hf
          exact V_iret (Y := m_X10_ask) rfl dX10_ask_72
        · refine V_aload_n (Y := m_X10_ask) (pc := 45) 0 dX10_ask_45 rfl ?_
          refine V_grL (Y := m_X10_ask) (pc := 46) (x := 8) 8 kX10 sM_0 (by decide +kernel) rfl rfl tw_1078 dX10_ask_46 ?_
          refine V_iload_n (Y := m_X10_ask) (pc := 49) 1 dX10_ask_49 rfl ?_
          obtain ⟨hi5, hf⟩ := g_if hf
          refine V_iald (Y := m_X10_ask) (pc := 50) sM_8 hi5 dX10_ask_50 ?_
          refine V_iload_n (Y := m_X10_ask) (pc := 51) 2 dX10_ask_51 rfl ?_
          obtain ⟨q6, hq6, hf⟩ := g_bind hf
          refine V_cSi (Y := m_X10_ask) (pc := 52) (As := [.int (q2.2 8 (ix x1)), .int x2]) yf_X10_isOf (by decide +kernel) (ok_X10_isOf (q2.2 8 (ix x1)) x2 q2.2 _  hq6) tw_1300 tw_1299 rfl rfl (Nat.le_of_ble_eq_true rfl) dX10_ask_52 ?_
          refine V_if_eq (Y := m_X10_ask) (pc := 55) (tgt := 70) dX10_ask_55 (by decide +kernel) hf (fun hf => ?_) (fun hf => ?_)
          · refine V_ldc (Y := m_X10_ask) (pc := 70) (x := (-1000000012 : Int32)) dX10_ask_70 tw_1302 ?_
            obtain rfl := Option.some.inj hf
            exact V_iret (Y := m_X10_ask) rfl dX10_ask_72
          · refine V_aload_n (Y := m_X10_ask) (pc := 58) 0 dX10_ask_58 rfl ?_
            refine V_grL (Y := m_X10_ask) (pc := 59) (x := 8) 8 kX10 sM_0 (by decide +kernel) rfl rfl tw_1078 dX10_ask_59 ?_
            refine V_iload_n (Y := m_X10_ask) (pc := 62) 1 dX10_ask_62 rfl ?_
            obtain ⟨hi7, hf⟩ := g_if hf
            refine V_iald (Y := m_X10_ask) (pc := 63) sM_8 hi7 dX10_ask_63 ?_
            obtain ⟨q8, hq8, hf⟩ := g_bind hf
            refine V_cSi (Y := m_X10_ask) (pc := 64) (As := [.int (q6.2 8 (ix x1))]) yf_X10_worthOf (by decide +kernel) (ok_X10_worthOf (q6.2 8 (ix x1)) q6.2 _  hq8) tw_1293 tw_1292 rfl rfl (Nat.le_of_ble_eq_true rfl) dX10_ask_64 ?_
            refine V_goto (Y := m_X10_ask) (pc := 67) (tgt := 72) dX10_ask_67 (by decide +kernel) ?_
            obtain rfl := Option.some.inj hf
            exact V_iret (Y := m_X10_ask) rfl dX10_ask_72
      · refine V_ldcw (Y := m_X10_ask) (pc := 31) (x := (-1000000011 : Int32)) dX10_ask_31 tw_1539 ?_
        obtain rfl := Option.some.inj hf
        exact V_iret (Y := m_X10_ask) rfl dX10_ask_34
    · refine V_ldc (Y := m_X10_ask) (pc := 19) (x := (-1000000001 : Int32)) dX10_ask_19 tw_1224 ?_
      obtain rfl := Option.some.inj hf
      exact V_iret (Y := m_X10_ask) rfl dX10_ask_21
def f_X10_ask (x1 : Int32) (x2 : Int32) (M : Mem) : Option (Int32 × Mem) := f_X10_ask_b0 x1 x2 M
set_option maxRecDepth 20000 in
set_option maxHeartbeats 4000000 in
theorem ok_X10_ask {l : Launch} {g : Gam} {b : Nat} : ∀ (x1 : Int32) (x2 : Int32) (M : Mem) (z : Int32 × Mem), f_X10_ask x1 x2 M = some z → Cn l g (wM b) m_X10_ask [.ref (b + 0), .int x1, .int x2] M (some (.int z.1)) z.2 := fun x1 x2 M z  hf => Cn_of (by decide +kernel) (Nat.le_of_ble_eq_true rfl) (V_sub [0, 1, 2] rfl (ok_X10_ask_b0 x1 x2 M z  hf))

abbrev m_X10_item : Mth := (yX10_item, cX10_item, 4, some .int, 3)
theorem yf_X10_item : YF m_X10_item 2 := ⟨tw_1629, tw_75, by decide +kernel, by decide +kernel⟩
def f_X10_item_b0  (x1 : Int32) (x2 : Int32) (M : Mem) : Option (Int32 × Mem) :=
  (f_X10_isSlot x1 M).bind fun q1 =>
  if q1.1 = 0 then
    some ((-1000000001 : Int32), q1.2)
  else
    if ixb x1 5 = true then
    if (q1.2 7 (ix x1)) = (2 : Int32) then
      if ixb x1 5 = true then
      (f_X10_isIn x2.toInt64 (0 : Int64) ((q1.2 10 (ix x1)) - (1 : Int32)).toInt64 q1.2).bind fun q4 =>
      if q4.1 = 0 then
        some ((-1000000013 : Int32), q4.2)
      else
        if ixb (((24 : Int32) * x1) + x2) 120 = true then
        if ixb x1 5 = true then
        if (q4.2 9 (ix x1)) = (1 : Int32) then
          if (q4.2 11 (ix (((24 : Int32) * x1) + x2))) = (-1000000005 : Int32) then
            some ((-1000000012 : Int32), q4.2)
          else
            some ((q4.2 11 (ix (((24 : Int32) * x1) + x2))), q4.2)
        else
          some ((q4.2 11 (ix (((24 : Int32) * x1) + x2))), q4.2)
        else none
        else none
      else none
    else
      if ixb x1 5 = true then
      if (q1.2 7 (ix x1)) = 0 then
        some ((-1000000011 : Int32), q1.2)
      else
        some ((-1000000012 : Int32), q1.2)
      else none
    else none
set_option maxRecDepth 20000 in
set_option maxHeartbeats 4000000 in
theorem ok_X10_item_b0 {l : Launch} {g : Gam} {b : Nat}   (x1 : Int32) (x2 : Int32) (M : Mem) (z : Int32 × Mem)  (hf : f_X10_item_b0 x1 x2 M = some z) : V l g (wM b) m_X10_item 0 [(0, .ref (b + 0)), (1, .int x1), (2, .int x2)] [] M (some (.int z.1)) z.2 := by
  unfold f_X10_item_b0 at hf
  refine V_iload_n (Y := m_X10_item) (pc := 0) 1 dX10_item_0 rfl ?_
  obtain ⟨q1, hq1, hf⟩ := g_bind hf
  refine V_cSi (Y := m_X10_item) (pc := 1) (As := [.int x1]) yf_X10_isSlot (by decide +kernel) (ok_X10_isSlot x1 M _  hq1) tw_1620 tw_1619 rfl rfl (Nat.le_of_ble_eq_true rfl) dX10_item_1 ?_
  refine V_if_ne (Y := m_X10_item) (pc := 4) (tgt := 10) dX10_item_4 (by decide +kernel) hf (fun hf => ?_) (fun hf => ?_)
  · refine V_aload_n (Y := m_X10_item) (pc := 10) 0 dX10_item_10 rfl ?_
    refine V_grL (Y := m_X10_item) (pc := 11) (x := 7) 7 kX10 sM_0 (by decide +kernel) rfl rfl tw_1077 dX10_item_11 ?_
    refine V_iload_n (Y := m_X10_item) (pc := 14) 1 dX10_item_14 rfl ?_
    obtain ⟨hi2, hf⟩ := g_if hf
    refine V_iald (Y := m_X10_item) (pc := 15) sM_7 hi2 dX10_item_15 ?_
    refine V_iconst (Y := m_X10_item) (pc := 16) (x := (2 : Int32)) dX10_item_16 (by decide +kernel) ?_
    refine V_icmp_eq (Y := m_X10_item) (pc := 17) (tgt := 38) dX10_item_17 (by decide +kernel) hf (fun hf => ?_) (fun hf => ?_)
    · refine V_iload_n (Y := m_X10_item) (pc := 38) 2 dX10_item_38 rfl ?_
      refine V_i2l (Y := m_X10_item) (pc := 39) dX10_item_39 ?_
      refine V_lconst (Y := m_X10_item) (pc := 40) (x := (0 : Int64)) dX10_item_40 (by decide +kernel) ?_
      refine V_aload_n (Y := m_X10_item) (pc := 41) 0 dX10_item_41 rfl ?_
      refine V_grL (Y := m_X10_item) (pc := 42) (x := 10) 10 kX10 sM_0 (by decide +kernel) rfl rfl tw_1080 dX10_item_42 ?_
      refine V_iload_n (Y := m_X10_item) (pc := 45) 1 dX10_item_45 rfl ?_
      obtain ⟨hi3, hf⟩ := g_if hf
      refine V_iald (Y := m_X10_item) (pc := 46) sM_10 hi3 dX10_item_46 ?_
      refine V_iconst (Y := m_X10_item) (pc := 47) (x := (1 : Int32)) dX10_item_47 (by decide +kernel) ?_
      refine V_isub (Y := m_X10_item) (pc := 48) dX10_item_48 ?_
      refine V_i2l (Y := m_X10_item) (pc := 49) dX10_item_49 ?_
      obtain ⟨q4, hq4, hf⟩ := g_bind hf
      refine V_cSi (Y := m_X10_item) (pc := 50) (As := [.long x2.toInt64, .long (0 : Int64), .long ((q1.2 10 (ix x1)) - (1 : Int32)).toInt64]) yf_X10_isIn (by decide +kernel) (ok_X10_isIn x2.toInt64 (0 : Int64) ((q1.2 10 (ix x1)) - (1 : Int32)).toInt64 q1.2 _  hq4) tw_1218 tw_1217 rfl rfl (Nat.le_of_ble_eq_true rfl) dX10_item_50 ?_
      refine V_if_ne (Y := m_X10_item) (pc := 53) (tgt := 60) dX10_item_53 (by decide +kernel) hf (fun hf => ?_) (fun hf => ?_)
      · refine V_aload_n (Y := m_X10_item) (pc := 60) 0 dX10_item_60 rfl ?_
        refine V_grL (Y := m_X10_item) (pc := 61) (x := 11) 11 kX10 sM_0 (by decide +kernel) rfl rfl tw_1081 dX10_item_61 ?_
        refine V_bipush (Y := m_X10_item) (pc := 64) (x := (24 : Int32)) dX10_item_64 (by decide +kernel) ?_
        refine V_iload_n (Y := m_X10_item) (pc := 66) 1 dX10_item_66 rfl ?_
        refine V_imul (Y := m_X10_item) (pc := 67) dX10_item_67 ?_
        refine V_iload_n (Y := m_X10_item) (pc := 68) 2 dX10_item_68 rfl ?_
        refine V_iadd (Y := m_X10_item) (pc := 69) dX10_item_69 ?_
        obtain ⟨hi5, hf⟩ := g_if hf
        refine V_iald (Y := m_X10_item) (pc := 70) sM_11 hi5 dX10_item_70 ?_
        refine V_istore_n (Y := m_X10_item) (pc := 71) [(3, .int (q4.2 11 (ix (((24 : Int32) * x1) + x2)))), (0, .ref (b + 0)), (1, .int x1), (2, .int x2)] dX10_item_71 (by decide +kernel) rfl ?_
        refine V_aload_n (Y := m_X10_item) (pc := 72) 1 dX10_item_72 rfl ?_
        refine V_grL (Y := m_X10_item) (pc := 73) (x := 9) 9 kX10 sM_0 (by decide +kernel) rfl rfl tw_1079 dX10_item_73 ?_
        refine V_iload_n (Y := m_X10_item) (pc := 76) 2 dX10_item_76 rfl ?_
        obtain ⟨hi6, hf⟩ := g_if hf
        refine V_iald (Y := m_X10_item) (pc := 77) sM_9 hi6 dX10_item_77 ?_
        refine V_iconst (Y := m_X10_item) (pc := 78) (x := (1 : Int32)) dX10_item_78 (by decide +kernel) ?_
        refine V_icmp_ne (Y := m_X10_item) (pc := 79) (tgt := 93) dX10_item_79 (by decide +kernel) hf (fun hf => ?_) (fun hf => ?_)
        · refine V_iload_n (Y := m_X10_item) (pc := 93) 0 dX10_item_93 rfl ?_
          obtain rfl := Option.some.inj hf
          exact V_iret (Y := m_X10_item) rfl dX10_item_94
        · refine V_iload_n (Y := m_X10_item) (pc := 82) 0 dX10_item_82 rfl ?_
          refine V_ldc (Y := m_X10_item) (pc := 83) (x := (-1000000005 : Int32)) dX10_item_83 tw_1249 ?_
          refine V_icmp_ne (Y := m_X10_item) (pc := 85) (tgt := 93) dX10_item_85 (by decide +kernel) hf (fun hf => ?_) (fun hf => ?_)
          · refine V_iload_n (Y := m_X10_item) (pc := 93) 0 dX10_item_93 rfl ?_
            obtain rfl := Option.some.inj hf
            exact V_iret (Y := m_X10_item) rfl dX10_item_94
          · refine V_ldc (Y := m_X10_item) (pc := 88) (x := (-1000000012 : Int32)) dX10_item_88 tw_1302 ?_
            refine V_goto (Y := m_X10_item) (pc := 90) (tgt := 94) dX10_item_90 (by decide +kernel) ?_
            obtain rfl := Option.some.inj hf
            exact V_iret (Y := m_X10_item) rfl dX10_item_94
      · refine V_ldcw (Y := m_X10_item) (pc := 56) (x := (-1000000013 : Int32)) dX10_item_56 tw_1604 ?_
        obtain rfl := Option.some.inj hf
        exact V_iret (Y := m_X10_item) rfl dX10_item_59
    · refine V_aload_n (Y := m_X10_item) (pc := 20) 0 dX10_item_20 rfl ?_
      refine V_grL (Y := m_X10_item) (pc := 21) (x := 7) 7 kX10 sM_0 (by decide +kernel) rfl rfl tw_1077 dX10_item_21 ?_
      refine V_iload_n (Y := m_X10_item) (pc := 24) 1 dX10_item_24 rfl ?_
      obtain ⟨hi7, hf⟩ := g_if hf
      refine V_iald (Y := m_X10_item) (pc := 25) sM_7 hi7 dX10_item_25 ?_
      refine V_if_ne (Y := m_X10_item) (pc := 26) (tgt := 35) dX10_item_26 (by decide +kernel) hf (fun hf => ?_) (fun hf => ?_)
      · refine V_ldc (Y := m_X10_item) (pc := 35) (x := (-1000000012 : Int32)) dX10_item_35 tw_1302 ?_
        obtain rfl := Option.some.inj hf
        exact V_iret (Y := m_X10_item) rfl dX10_item_37
      · refine V_ldcw (Y := m_X10_item) (pc := 29) (x := (-1000000011 : Int32)) dX10_item_29 tw_1539 ?_
        refine V_goto (Y := m_X10_item) (pc := 32) (tgt := 37) dX10_item_32 (by decide +kernel) ?_
        obtain rfl := Option.some.inj hf
        exact V_iret (Y := m_X10_item) rfl dX10_item_37
  · refine V_ldc (Y := m_X10_item) (pc := 7) (x := (-1000000001 : Int32)) dX10_item_7 tw_1224 ?_
    obtain rfl := Option.some.inj hf
    exact V_iret (Y := m_X10_item) rfl dX10_item_9
def f_X10_item (x1 : Int32) (x2 : Int32) (M : Mem) : Option (Int32 × Mem) := f_X10_item_b0 x1 x2 M
set_option maxRecDepth 20000 in
set_option maxHeartbeats 4000000 in
theorem ok_X10_item {l : Launch} {g : Gam} {b : Nat} : ∀ (x1 : Int32) (x2 : Int32) (M : Mem) (z : Int32 × Mem), f_X10_item x1 x2 M = some z → Cn l g (wM b) m_X10_item [.ref (b + 0), .int x1, .int x2] M (some (.int z.1)) z.2 := fun x1 x2 M z  hf => Cn_of (by decide +kernel) (Nat.le_of_ble_eq_true rfl) (V_sub [0, 1, 2] rfl (ok_X10_item_b0 x1 x2 M z  hf))

abbrev m_X10_rest : Mth := (yX10_rest, cX10_rest, 3, some .int, 3)
theorem yf_X10_rest : YF m_X10_rest 2 := ⟨tw_1633, tw_75, by decide +kernel, by decide +kernel⟩
def f_X10_rest_b0  (x1 : Int32) (x2 : Int32) (M : Mem) : Option (Int32 × Mem) :=
  (f_X10_isSlot x1 M).bind fun q1 =>
  if q1.1 = 0 then
    some ((-1000000001 : Int32), q1.2)
  else
    if ixb x1 5 = true then
    if (q1.2 7 (ix x1)) = (3 : Int32) then
      if x2 = 0 then
        some ((-1000000002 : Int32), q1.2)
      else
        if ixb x1 5 = true then
        if x2 = 0 then none else
        some ((irem (q1.2 8 (ix x1)) x2), q1.2)
        else none
    else
      if ixb x1 5 = true then
      if (q1.2 7 (ix x1)) = 0 then
        some ((-1000000011 : Int32), q1.2)
      else
        some ((-1000000012 : Int32), q1.2)
      else none
    else none
set_option maxRecDepth 20000 in
set_option maxHeartbeats 4000000 in
theorem ok_X10_rest_b0 {l : Launch} {g : Gam} {b : Nat}   (x1 : Int32) (x2 : Int32) (M : Mem) (z : Int32 × Mem)  (hf : f_X10_rest_b0 x1 x2 M = some z) : V l g (wM b) m_X10_rest 0 [(0, .ref (b + 0)), (1, .int x1), (2, .int x2)] [] M (some (.int z.1)) z.2 := by
  unfold f_X10_rest_b0 at hf
  refine V_iload_n (Y := m_X10_rest) (pc := 0) 1 dX10_rest_0 rfl ?_
  obtain ⟨q1, hq1, hf⟩ := g_bind hf
  refine V_cSi (Y := m_X10_rest) (pc := 1) (As := [.int x1]) yf_X10_isSlot (by decide +kernel) (ok_X10_isSlot x1 M _  hq1) tw_1620 tw_1619 rfl rfl (Nat.le_of_ble_eq_true rfl) dX10_rest_1 ?_
  refine V_if_ne (Y := m_X10_rest) (pc := 4) (tgt := 10) dX10_rest_4 (by decide +kernel) hf (fun hf => ?_) (fun hf => ?_)
  · refine V_aload_n (Y := m_X10_rest) (pc := 10) 0 dX10_rest_10 rfl ?_
    refine V_grL (Y := m_X10_rest) (pc := 11) (x := 7) 7 kX10 sM_0 (by decide +kernel) rfl rfl tw_1077 dX10_rest_11 ?_
    refine V_iload_n (Y := m_X10_rest) (pc := 14) 1 dX10_rest_14 rfl ?_
    obtain ⟨hi2, hf⟩ := g_if hf
    refine V_iald (Y := m_X10_rest) (pc := 15) sM_7 hi2 dX10_rest_15 ?_
    refine V_iconst (Y := m_X10_rest) (pc := 16) (x := (3 : Int32)) dX10_rest_16 (by decide +kernel) ?_
    refine V_icmp_eq (Y := m_X10_rest) (pc := 17) (tgt := 38) dX10_rest_17 (by decide +kernel) hf (fun hf => ?_) (fun hf => ?_)
    · refine V_iload_n (Y := m_X10_rest) (pc := 38) 2 dX10_rest_38 rfl ?_
      refine V_if_ne (Y := m_X10_rest) (pc := 39) (tgt := 48) dX10_rest_39 (by decide +kernel) hf (fun hf => ?_) (fun hf => ?_)
      · refine V_aload_n (Y := m_X10_rest) (pc := 48) 0 dX10_rest_48 rfl ?_
        refine V_grL (Y := m_X10_rest) (pc := 49) (x := 8) 8 kX10 sM_0 (by decide +kernel) rfl rfl tw_1078 dX10_rest_49 ?_
        refine V_iload_n (Y := m_X10_rest) (pc := 52) 1 dX10_rest_52 rfl ?_
        obtain ⟨hi3, hf⟩ := g_if hf
        refine V_iald (Y := m_X10_rest) (pc := 53) sM_8 hi3 dX10_rest_53 ?_
        refine V_iload_n (Y := m_X10_rest) (pc := 54) 2 dX10_rest_54 rfl ?_
        obtain ⟨hc4, hf⟩ := g_ifn hf
        refine V_irem (Y := m_X10_rest) (pc := 55) dX10_rest_55 hc4 ?_
        obtain rfl := Option.some.inj hf
        exact V_iret (Y := m_X10_rest) rfl dX10_rest_56
      · refine V_ldcw (Y := m_X10_rest) (pc := 42) (x := (-1000000002 : Int32)) dX10_rest_42 tw_1450 ?_
        refine V_goto (Y := m_X10_rest) (pc := 45) (tgt := 56) dX10_rest_45 (by decide +kernel) ?_
        obtain rfl := Option.some.inj hf
        exact V_iret (Y := m_X10_rest) rfl dX10_rest_56
    · refine V_aload_n (Y := m_X10_rest) (pc := 20) 0 dX10_rest_20 rfl ?_
      refine V_grL (Y := m_X10_rest) (pc := 21) (x := 7) 7 kX10 sM_0 (by decide +kernel) rfl rfl tw_1077 dX10_rest_21 ?_
      refine V_iload_n (Y := m_X10_rest) (pc := 24) 1 dX10_rest_24 rfl ?_
      obtain ⟨hi5, hf⟩ := g_if hf
      refine V_iald (Y := m_X10_rest) (pc := 25) sM_7 hi5 dX10_rest_25 ?_
      refine V_if_ne (Y := m_X10_rest) (pc := 26) (tgt := 35) dX10_rest_26 (by decide +kernel) hf (fun hf => ?_) (fun hf => ?_)
      · refine V_ldc (Y := m_X10_rest) (pc := 35) (x := (-1000000012 : Int32)) dX10_rest_35 tw_1302 ?_
        obtain rfl := Option.some.inj hf
        exact V_iret (Y := m_X10_rest) rfl dX10_rest_37
      · refine V_ldcw (Y := m_X10_rest) (pc := 29) (x := (-1000000011 : Int32)) dX10_rest_29 tw_1539 ?_
        refine V_goto (Y := m_X10_rest) (pc := 32) (tgt := 37) dX10_rest_32 (by decide +kernel) ?_
        obtain rfl := Option.some.inj hf
        exact V_iret (Y := m_X10_rest) rfl dX10_rest_37
  · refine V_ldc (Y := m_X10_rest) (pc := 7) (x := (-1000000001 : Int32)) dX10_rest_7 tw_1224 ?_
    obtain rfl := Option.some.inj hf
    exact V_iret (Y := m_X10_rest) rfl dX10_rest_9
def f_X10_rest (x1 : Int32) (x2 : Int32) (M : Mem) : Option (Int32 × Mem) := f_X10_rest_b0 x1 x2 M
set_option maxRecDepth 20000 in
set_option maxHeartbeats 4000000 in
theorem ok_X10_rest {l : Launch} {g : Gam} {b : Nat} : ∀ (x1 : Int32) (x2 : Int32) (M : Mem) (z : Int32 × Mem), f_X10_rest x1 x2 M = some z → Cn l g (wM b) m_X10_rest [.ref (b + 0), .int x1, .int x2] M (some (.int z.1)) z.2 := fun x1 x2 M z  hf => Cn_of (by decide +kernel) (Nat.le_of_ble_eq_true rfl) (V_sub [0, 1, 2] rfl (ok_X10_rest_b0 x1 x2 M z  hf))

abbrev m_X10_tell : Mth := (yX10_tell, cX10_tell, 2, some .int, 1)
theorem yf_X10_tell : YF m_X10_tell 1 := ⟨tw_1637, tw_75, by decide +kernel, by decide +kernel⟩
def f_X10_tell_b0  (x1 : Int32) (M : Mem) : Option (Int32 × Mem) :=
  if (M 0 45) = (60 : Int32) then
    some ((-1000000003 : Int32), M)
  else
    if ixb (M 0 45) 60 = true then
    some (((mset (mset M 22 (ix (M 0 45)) x1) 0 45 (((mset M 22 (ix (M 0 45)) x1) 0 45) + (1 : Int32))) 0 45), (mset (mset M 22 (ix (M 0 45)) x1) 0 45 (((mset M 22 (ix (M 0 45)) x1) 0 45) + (1 : Int32))))
    else none
set_option maxRecDepth 20000 in
set_option maxHeartbeats 4000000 in
theorem ok_X10_tell_b0 {l : Launch} {g : Gam} {b : Nat}   (x1 : Int32) (M : Mem) (z : Int32 × Mem)  (hf : f_X10_tell_b0 x1 M = some z) : V l g (wM b) m_X10_tell 0 [(0, .ref (b + 0)), (1, .int x1)] [] M (some (.int z.1)) z.2 := by
  unfold f_X10_tell_b0 at hf
  refine V_aload_n (Y := m_X10_tell) (pc := 0) 0 dX10_tell_0 rfl ?_
  refine V_gi (Y := m_X10_tell) (pc := 1) 45 kX10 sM_0 (by decide +kernel) rfl tw_1115 dX10_tell_1 ?_
  refine V_bipush (Y := m_X10_tell) (pc := 4) (x := (60 : Int32)) dX10_tell_4 (by decide +kernel) ?_
  refine V_icmp_ne (Y := m_X10_tell) (pc := 6) (tgt := 12) dX10_tell_6 (by decide +kernel) hf (fun hf => ?_) (fun hf => ?_)
  · refine V_aload_n (Y := m_X10_tell) (pc := 12) 0 dX10_tell_12 rfl ?_
    refine V_grL (Y := m_X10_tell) (pc := 13) (x := 22) 44 kX10 sM_0 (by decide +kernel) rfl rfl tw_1114 dX10_tell_13 ?_
    refine V_aload_n (Y := m_X10_tell) (pc := 16) 0 dX10_tell_16 rfl ?_
    refine V_gi (Y := m_X10_tell) (pc := 17) 45 kX10 sM_0 (by decide +kernel) rfl tw_1115 dX10_tell_17 ?_
    refine V_iload_n (Y := m_X10_tell) (pc := 20) 1 dX10_tell_20 rfl ?_
    obtain ⟨hi1, hf⟩ := g_if hf
    refine V_iast (Y := m_X10_tell) (pc := 21) sM_22 hi1 dX10_tell_21 ?_
    refine V_aload_n (Y := m_X10_tell) (pc := 22) 0 dX10_tell_22 rfl ?_
    refine V_dup (Y := m_X10_tell) (pc := 23) dX10_tell_23 rfl ?_
    refine V_gi (Y := m_X10_tell) (pc := 24) 45 kX10 sM_0 (by decide +kernel) rfl tw_1115 dX10_tell_24 ?_
    refine V_iconst (Y := m_X10_tell) (pc := 27) (x := (1 : Int32)) dX10_tell_27 (by decide +kernel) ?_
    refine V_iadd (Y := m_X10_tell) (pc := 28) dX10_tell_28 ?_
    refine V_pi (Y := m_X10_tell) (pc := 29) 45 kX10 sM_0 (by decide +kernel) rfl rfl rfl tw_1115 dX10_tell_29 ?_
    refine V_aload_n (Y := m_X10_tell) (pc := 32) 0 dX10_tell_32 rfl ?_
    refine V_gi (Y := m_X10_tell) (pc := 33) 45 kX10 sM_0 (by decide +kernel) rfl tw_1115 dX10_tell_33 ?_
    obtain rfl := Option.some.inj hf
    exact V_iret (Y := m_X10_tell) rfl dX10_tell_36
  · refine V_ldc (Y := m_X10_tell) (pc := 9) (x := (-1000000003 : Int32)) dX10_tell_9 tw_1225 ?_
    obtain rfl := Option.some.inj hf
    exact V_iret (Y := m_X10_tell) rfl dX10_tell_11
def f_X10_tell (x1 : Int32) (M : Mem) : Option (Int32 × Mem) := f_X10_tell_b0 x1 M
set_option maxRecDepth 20000 in
set_option maxHeartbeats 4000000 in
theorem ok_X10_tell {l : Launch} {g : Gam} {b : Nat} : ∀ (x1 : Int32) (M : Mem) (z : Int32 × Mem), f_X10_tell x1 M = some z → Cn l g (wM b) m_X10_tell [.ref (b + 0), .int x1] M (some (.int z.1)) z.2 := fun x1 M z  hf => Cn_of (by decide +kernel) (Nat.le_of_ble_eq_true rfl) (V_sub [0, 1] rfl (ok_X10_tell_b0 x1 M z  hf))

abbrev m_X10_setAside : Mth := (yX10_setAside, cX10_setAside, 4, none, 1)
theorem yf_X10_setAside : YF m_X10_setAside 2 := ⟨tw_1646, tw_75, by decide +kernel, by decide +kernel⟩
def f_X10_setAside_b2  : Nat → Nat → Nat → Int32 → Mem → Option (Int32 × Mem)
  | 0, _, _, _, _ => none
  | n + 1, a1, a2, x3, M =>
    if (3300 : Int32) ≤ x3 then
      some (0, M)
    else
      if ixb x3 3300 = true then
      if ixb x3 3300 = true then
      f_X10_setAside_b2  n a1 a2 (x3 + (1 : Int32)) (mset M a2 (ix x3) (M a1 (ix x3)))
      else none
      else none
set_option maxRecDepth 20000 in
set_option maxHeartbeats 4000000 in
theorem ok_X10_setAside_b2 {l : Launch} {g : Gam} {b : Nat}   : ∀ (n : Nat) (a1 : Nat) (a2 : Nat) (x3 : Int32) (M : Mem) (z : Int32 × Mem), (ha1 : shM[a1]? = some (0, 3300)) → (ha2 : shM[a2]? = some (0, 3300)) → f_X10_setAside_b2  n a1 a2 x3 M = some z → V l g (wM b) m_X10_setAside 2 [(1, .ref (b + a1)), (2, .ref (b + a2)), (3, .int x3)] [] M none z.2 := by
  intro n
  induction n with
  | zero =>
    intro a1 a2 x3 M z ha1 ha2 hf
    cases hf
  | succ n ih =>
    intro a1 a2 x3 M z ha1 ha2 hf
    rw [f_X10_setAside_b2] at hf
    refine V_iload_n (Y := m_X10_setAside) (pc := 2) 2 dX10_setAside_2 rfl ?_
    refine V_sipush (Y := m_X10_setAside) (pc := 3) (x := (3300 : Int32)) dX10_setAside_3 (by decide +kernel) ?_
    refine V_icmp_ge (Y := m_X10_setAside) (pc := 6) (tgt := 21) dX10_setAside_6 (by decide +kernel) hf (fun hf => ?_) (fun hf => ?_)
    · obtain rfl := Option.some.inj hf
      exact V_vret (Y := m_X10_setAside) rfl dX10_setAside_21
    · refine V_aload_n (Y := m_X10_setAside) (pc := 9) 1 dX10_setAside_9 rfl ?_
      refine V_iload_n (Y := m_X10_setAside) (pc := 10) 2 dX10_setAside_10 rfl ?_
      refine V_aload_n (Y := m_X10_setAside) (pc := 11) 0 dX10_setAside_11 rfl ?_
      refine V_iload_n (Y := m_X10_setAside) (pc := 12) 2 dX10_setAside_12 rfl ?_
      obtain ⟨hi1, hf⟩ := g_if hf
      refine V_iald (Y := m_X10_setAside) (pc := 13) ha1 hi1 dX10_setAside_13 ?_
      obtain ⟨hi2, hf⟩ := g_if hf
      refine V_iast (Y := m_X10_setAside) (pc := 14) ha2 hi2 dX10_setAside_14 ?_
      refine V_iinc (Y := m_X10_setAside) (pc := 15) (y := (x3 + (1 : Int32))) 2 [(3, .int (x3 + (1 : Int32))), (1, .ref (b + a1)), (2, .ref (b + a2))] dX10_setAside_15 rfl rfl (by decide +kernel) rfl ?_
      refine V_goto (Y := m_X10_setAside) (pc := 18) (tgt := 2) dX10_setAside_18 (by decide +kernel) ?_
      exact V_sub [1, 2, 0] rfl (ih a1 a2 (x3 + (1 : Int32)) (mset M a2 (ix x3) (M a1 (ix x3))) z ha1 ha2 hf)
def f_X10_setAside_b0  (a1 : Nat) (a2 : Nat) (M : Mem) : Option (Int32 × Mem) :=
  f_X10_setAside_b2  FU a1 a2 (0 : Int32) M
set_option maxRecDepth 20000 in
set_option maxHeartbeats 4000000 in
theorem ok_X10_setAside_b0 {l : Launch} {g : Gam} {b : Nat}   (a1 : Nat) (a2 : Nat) (M : Mem) (z : Int32 × Mem) (ha1 : shM[a1]? = some (0, 3300)) (ha2 : shM[a2]? = some (0, 3300)) (hf : f_X10_setAside_b0 a1 a2 M = some z) : V l g (wM b) m_X10_setAside 0 [(1, .ref (b + a1)), (2, .ref (b + a2))] [] M none z.2 := by
  unfold f_X10_setAside_b0 at hf
  refine V_iconst (Y := m_X10_setAside) (pc := 0) (x := (0 : Int32)) dX10_setAside_0 (by decide +kernel) ?_
  refine V_istore_n (Y := m_X10_setAside) (pc := 1) [(3, .int (0 : Int32)), (1, .ref (b + a1)), (2, .ref (b + a2))] dX10_setAside_1 (by decide +kernel) rfl ?_
  exact V_sub [1, 2, 0] rfl (ok_X10_setAside_b2  FU a1 a2 (0 : Int32) M z ha1 ha2 hf)
def f_X10_setAside (a1 : Nat) (a2 : Nat) (M : Mem) : Option (Int32 × Mem) := f_X10_setAside_b0 a1 a2 M
set_option maxRecDepth 20000 in
set_option maxHeartbeats 4000000 in
theorem ok_X10_setAside {l : Launch} {g : Gam} {b : Nat} : ∀ (a1 : Nat) (a2 : Nat) (M : Mem) (z : Int32 × Mem), shM[a1]? = some (0, 3300) → shM[a2]? = some (0, 3300) → f_X10_setAside a1 a2 M = some z → Cn l g (wM b) m_X10_setAside [.ref (b + 0), .ref (b + a1), .ref (b + a2)] M none z.2 := fun a1 a2 M z ha1 ha2 hf => Cn_of (by decide +kernel) (Nat.le_of_ble_eq_true rfl) (V_sub [1, 2] rfl (ok_X10_setAside_b0 a1 a2 M z ha1 ha2 hf))

abbrev m_X10_surveyed : Mth := (yX10_surveyed, cX10_surveyed, 3, some .int, 1)
theorem yf_X10_surveyed : YF m_X10_surveyed 0 := ⟨tw_1650, tw_75, by decide +kernel, by decide +kernel⟩
def f_X10_surveyed_b28 (k4 : Int32 → Int32 → Mem → Option (Int32 × Mem)) (x2 : Int32) (s0 : Int32) (s1 : Int32) (M : Mem) : Option (Int32 × Mem) :=
  k4 (s1 + s0) (x2 + (1 : Int32)) M
set_option maxRecDepth 20000 in
set_option maxHeartbeats 4000000 in
theorem ok_X10_surveyed_b28 {l : Launch} {g : Gam} {b : Nat} (k4 : Int32 → Int32 → Mem → Option (Int32 × Mem)) (hk4 : ∀ (x1 : Int32) (x2 : Int32) (M : Mem) (z : Int32 × Mem), k4 x1 x2 M = some z → V l g (wM b) m_X10_surveyed 4 [(0, .ref (b + 0)), (1, .int x1), (2, .int x2)] [] M (some (.int z.1)) z.2) (x2 : Int32) (s0 : Int32) (s1 : Int32) (M : Mem) (z : Int32 × Mem)  (hf : f_X10_surveyed_b28 k4 x2 s0 s1 M = some z) : V l g (wM b) m_X10_surveyed 28 [(0, .ref (b + 0)), (2, .int x2)] [.int s0, .int s1] M (some (.int z.1)) z.2 := by
  unfold f_X10_surveyed_b28 at hf
  refine V_iadd (Y := m_X10_surveyed) (pc := 28) dX10_surveyed_28 ?_
  refine V_istore_n (Y := m_X10_surveyed) (pc := 29) [(1, .int (s1 + s0)), (0, .ref (b + 0)), (2, .int x2)] dX10_surveyed_29 (by decide +kernel) rfl ?_
  refine V_iinc (Y := m_X10_surveyed) (pc := 30) (y := (x2 + (1 : Int32))) 2 [(2, .int (x2 + (1 : Int32))), (1, .int (s1 + s0)), (0, .ref (b + 0))] dX10_surveyed_30 rfl rfl (by decide +kernel) rfl ?_
  refine V_goto (Y := m_X10_surveyed) (pc := 33) (tgt := 4) dX10_surveyed_33 (by decide +kernel) ?_
  exact V_sub [2, 1, 0] rfl (hk4 (s1 + s0) (x2 + (1 : Int32)) M z  hf)
def f_X10_surveyed_b4  : Nat → Int32 → Int32 → Mem → Option (Int32 × Mem)
  | 0, _, _, _ => none
  | n + 1, x1, x2, M =>
    if (9 : Int32) ≤ x2 then
      some (x1, M)
    else
      if ixb ((20 : Int32) + x2) 3300 = true then
      if (M 1 (ix ((20 : Int32) + x2))) < 0 then
        f_X10_surveyed_b28 (f_X10_surveyed_b4  n) x2 (0 : Int32) x1 M
      else
        f_X10_surveyed_b28 (f_X10_surveyed_b4  n) x2 (1 : Int32) x1 M
      else none
set_option maxRecDepth 20000 in
set_option maxHeartbeats 4000000 in
theorem ok_X10_surveyed_b4 {l : Launch} {g : Gam} {b : Nat}   : ∀ (n : Nat) (x1 : Int32) (x2 : Int32) (M : Mem) (z : Int32 × Mem), f_X10_surveyed_b4  n x1 x2 M = some z → V l g (wM b) m_X10_surveyed 4 [(0, .ref (b + 0)), (1, .int x1), (2, .int x2)] [] M (some (.int z.1)) z.2 := by
  intro n
  induction n with
  | zero =>
    intro x1 x2 M z  hf
    cases hf
  | succ n ih =>
    intro x1 x2 M z  hf
    rw [f_X10_surveyed_b4] at hf
    refine V_iload_n (Y := m_X10_surveyed) (pc := 4) 2 dX10_surveyed_4 rfl ?_
    refine V_bipush (Y := m_X10_surveyed) (pc := 5) (x := (9 : Int32)) dX10_surveyed_5 (by decide +kernel) ?_
    refine V_icmp_ge (Y := m_X10_surveyed) (pc := 7) (tgt := 36) dX10_surveyed_7 (by decide +kernel) hf (fun hf => ?_) (fun hf => ?_)
    · refine V_iload_n (Y := m_X10_surveyed) (pc := 36) 1 dX10_surveyed_36 rfl ?_
      obtain rfl := Option.some.inj hf
      exact V_iret (Y := m_X10_surveyed) rfl dX10_surveyed_37
    · refine V_iload_n (Y := m_X10_surveyed) (pc := 10) 1 dX10_surveyed_10 rfl ?_
      refine V_aload_n (Y := m_X10_surveyed) (pc := 11) 0 dX10_surveyed_11 rfl ?_
      refine V_grL (Y := m_X10_surveyed) (pc := 12) (x := 1) 0 kX10 sM_0 (by decide +kernel) rfl rfl tw_1070 dX10_surveyed_12 ?_
      refine V_bipush (Y := m_X10_surveyed) (pc := 15) (x := (20 : Int32)) dX10_surveyed_15 (by decide +kernel) ?_
      refine V_iload_n (Y := m_X10_surveyed) (pc := 17) 2 dX10_surveyed_17 rfl ?_
      refine V_iadd (Y := m_X10_surveyed) (pc := 18) dX10_surveyed_18 ?_
      obtain ⟨hi1, hf⟩ := g_if hf
      refine V_iald (Y := m_X10_surveyed) (pc := 19) sM_1 hi1 dX10_surveyed_19 ?_
      refine V_if_lt (Y := m_X10_surveyed) (pc := 20) (tgt := 27) dX10_surveyed_20 (by decide +kernel) hf (fun hf => ?_) (fun hf => ?_)
      · refine V_iconst (Y := m_X10_surveyed) (pc := 27) (x := (0 : Int32)) dX10_surveyed_27 (by decide +kernel) ?_
        exact V_sub [0, 2] rfl (ok_X10_surveyed_b28 (f_X10_surveyed_b4  n) ih x2 (0 : Int32) x1 M z  hf)
      · refine V_iconst (Y := m_X10_surveyed) (pc := 23) (x := (1 : Int32)) dX10_surveyed_23 (by decide +kernel) ?_
        refine V_goto (Y := m_X10_surveyed) (pc := 24) (tgt := 28) dX10_surveyed_24 (by decide +kernel) ?_
        exact V_sub [0, 2] rfl (ok_X10_surveyed_b28 (f_X10_surveyed_b4  n) ih x2 (1 : Int32) x1 M z  hf)
def f_X10_surveyed_b0   (M : Mem) : Option (Int32 × Mem) :=
  f_X10_surveyed_b4  FU (0 : Int32) (0 : Int32) M
set_option maxRecDepth 20000 in
set_option maxHeartbeats 4000000 in
theorem ok_X10_surveyed_b0 {l : Launch} {g : Gam} {b : Nat}    (M : Mem) (z : Int32 × Mem)  (hf : f_X10_surveyed_b0  M = some z) : V l g (wM b) m_X10_surveyed 0 [(0, .ref (b + 0))] [] M (some (.int z.1)) z.2 := by
  unfold f_X10_surveyed_b0 at hf
  refine V_iconst (Y := m_X10_surveyed) (pc := 0) (x := (0 : Int32)) dX10_surveyed_0 (by decide +kernel) ?_
  refine V_istore_n (Y := m_X10_surveyed) (pc := 1) [(1, .int (0 : Int32)), (0, .ref (b + 0))] dX10_surveyed_1 (by decide +kernel) rfl ?_
  refine V_iconst (Y := m_X10_surveyed) (pc := 2) (x := (0 : Int32)) dX10_surveyed_2 (by decide +kernel) ?_
  refine V_istore_n (Y := m_X10_surveyed) (pc := 3) [(2, .int (0 : Int32)), (1, .int (0 : Int32)), (0, .ref (b + 0))] dX10_surveyed_3 (by decide +kernel) rfl ?_
  exact V_sub [2, 1, 0] rfl (ok_X10_surveyed_b4  FU (0 : Int32) (0 : Int32) M z  hf)
def f_X10_surveyed  (M : Mem) : Option (Int32 × Mem) := f_X10_surveyed_b0  M
set_option maxRecDepth 20000 in
set_option maxHeartbeats 4000000 in
theorem ok_X10_surveyed {l : Launch} {g : Gam} {b : Nat} : ∀  (M : Mem) (z : Int32 × Mem), f_X10_surveyed  M = some z → Cn l g (wM b) m_X10_surveyed [.ref (b + 0)] M (some (.int z.1)) z.2 := fun  M z  hf => Cn_of (by decide +kernel) (Nat.le_of_ble_eq_true rfl) (V_sub [0] rfl (ok_X10_surveyed_b0  M z  hf))

