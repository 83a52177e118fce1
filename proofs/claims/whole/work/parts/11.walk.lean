abbrev m_X4_isLetter : Mth := (yX4_isLetter, cX4_isLetter, 1, some .boolean, 2)
theorem yf_X4_isLetter : YF m_X4_isLetter 1 := ⟨tw_593, tw_66, by decide +kernel, by decide +kernel⟩
def f_X4_isLetter_b0  (x0 : Int32) (M : Mem) : Option (Int32 × Mem) :=
  (f_X9_isWithin x0 (97 : Int32) (122 : Int32) M).bind fun q1 =>
  if z01 q1.1 = true then some (q1.1, q1.2) else none
set_option maxRecDepth 20000 in
set_option maxHeartbeats 4000000 in
theorem ok_X4_isLetter_b0 {l : Launch} {g : Gam} {b : Nat}   (x0 : Int32) (M : Mem) (z : Int32 × Mem)  (hf : f_X4_isLetter_b0 x0 M = some z) : V l g (wC b) m_X4_isLetter 0 [(0, .int x0)] [] M (some (.int z.1)) z.2 := by
  unfold f_X4_isLetter_b0 at hf
  refine V_iload_n (Y := m_X4_isLetter) (pc := 0) 0 dX4_isLetter_0 rfl ?_
  refine V_bipush (Y := m_X4_isLetter) (pc := 1) (x := (97 : Int32)) dX4_isLetter_1 (by decide +kernel) ?_
  refine V_bipush (Y := m_X4_isLetter) (pc := 3) (x := (122 : Int32)) dX4_isLetter_3 (by decide +kernel) ?_
  obtain ⟨q1, hq1, hf⟩ := g_bind hf
  refine V_cSNi (Y := m_X4_isLetter) (pc := 5) (As := [.int x0, .int (97 : Int32), .int (122 : Int32)]) yf_X9_isWithin (by decide +kernel) (ok_X9_isWithin x0 (97 : Int32) (122 : Int32) M _  hq1) tw_479 nw_594 rfl rfl (Nat.le_of_ble_eq_true rfl) dX4_isLetter_5 ?_
  obtain ⟨hz2, hf⟩ := g_if hf
  obtain rfl := Option.some.inj hf
  exact V_zret (Y := m_X4_isLetter) hz2 rfl dX4_isLetter_8
def f_X4_isLetter (x0 : Int32) (M : Mem) : Option (Int32 × Mem) := f_X4_isLetter_b0 x0 M
set_option maxRecDepth 20000 in
set_option maxHeartbeats 4000000 in
theorem ok_X4_isLetter {l : Launch} {g : Gam} {b : Nat} : ∀ (x0 : Int32) (M : Mem) (z : Int32 × Mem), f_X4_isLetter x0 M = some z → Cn l g (wC b) m_X4_isLetter [.int x0] M (some (.int z.1)) z.2 := fun x0 M z  hf => Cn_of (by decide +kernel) (Nat.le_of_ble_eq_true rfl) (V_sub [0] rfl (ok_X4_isLetter_b0 x0 M z  hf))

abbrev m_X4_takeLetters : Mth := (yX4_takeLetters, cX4_takeLetters, 1, none, 3)
theorem yf_X4_takeLetters : YF m_X4_takeLetters 0 := ⟨tw_598, tw_66, by decide +kernel, by decide +kernel⟩
def f_X4_takeLetters_b5  : Nat → Mem → Option (Int32 × Mem)
  | 0, _ => none
  | n + 1, M =>
    if (M 1 1) ≤ (M 1 3) then
      some (0, M)
    else
      if ixb (M 1 3) 96 = true then
      (f_X4_isLetter (M 2 (ix (M 1 3))) M).bind fun q2 =>
      if q2.1 = 0 then
        some (0, q2.2)
      else
        f_X4_takeLetters_b5  n  (mset q2.2 1 3 ((q2.2 1 3) + (1 : Int32)))
      else none
set_option maxRecDepth 20000 in
set_option maxHeartbeats 4000000 in
theorem ok_X4_takeLetters_b5 {l : Launch} {g : Gam} {b : Nat}   : ∀ (n : Nat)  (M : Mem) (z : Int32 × Mem), f_X4_takeLetters_b5  n  M = some z → V l g (wC b) m_X4_takeLetters 5 [(0, .ref (b + 1))] [] M none z.2 := by
  intro n
  induction n with
  | zero =>
    intro  M z  hf
    cases hf
  | succ n ih =>
    intro  M z  hf
    rw [f_X4_takeLetters_b5] at hf
    refine V_aload_n (Y := m_X4_takeLetters) (pc := 5) 0 dX4_takeLetters_5 rfl ?_
    refine V_gi (Y := m_X4_takeLetters) (pc := 6) 3 kX4 sC_1 (by decide +kernel) rfl tw_102 dX4_takeLetters_6 ?_
    refine V_aload_n (Y := m_X4_takeLetters) (pc := 9) 0 dX4_takeLetters_9 rfl ?_
    refine V_gi (Y := m_X4_takeLetters) (pc := 10) 1 kX4 sC_1 (by decide +kernel) rfl tw_98 dX4_takeLetters_10 ?_
    refine V_icmp_ge (Y := m_X4_takeLetters) (pc := 13) (tgt := 44) dX4_takeLetters_13 (by decide +kernel) hf (fun hf => ?_) (fun hf => ?_)
    · obtain rfl := Option.some.inj hf
      exact V_vret (Y := m_X4_takeLetters) rfl dX4_takeLetters_44
    · refine V_aload_n (Y := m_X4_takeLetters) (pc := 16) 0 dX4_takeLetters_16 rfl ?_
      refine V_grL (Y := m_X4_takeLetters) (pc := 17) (x := 2) 0 kX4 sC_1 (by decide +kernel) rfl rfl tw_97 dX4_takeLetters_17 ?_
      refine V_aload_n (Y := m_X4_takeLetters) (pc := 20) 0 dX4_takeLetters_20 rfl ?_
      refine V_gi (Y := m_X4_takeLetters) (pc := 21) 3 kX4 sC_1 (by decide +kernel) rfl tw_102 dX4_takeLetters_21 ?_
      obtain ⟨hi1, hf⟩ := g_if hf
      refine V_iald (Y := m_X4_takeLetters) (pc := 24) sC_2 hi1 dX4_takeLetters_24 ?_
      obtain ⟨q2, hq2, hf⟩ := g_bind hf
      refine V_cSi (Y := m_X4_takeLetters) (pc := 25) (As := [.int (M 2 (ix (M 1 3)))]) yf_X4_isLetter (by decide +kernel) (ok_X4_isLetter (M 2 (ix (M 1 3))) M _  hq2) tw_592 tw_591 rfl rfl (Nat.le_of_ble_eq_true rfl) dX4_takeLetters_25 ?_
      refine V_if_eq (Y := m_X4_takeLetters) (pc := 28) (tgt := 44) dX4_takeLetters_28 (by decide +kernel) hf (fun hf => ?_) (fun hf => ?_)
      · obtain rfl := Option.some.inj hf
        exact V_vret (Y := m_X4_takeLetters) rfl dX4_takeLetters_44
      · refine V_aload_n (Y := m_X4_takeLetters) (pc := 31) 0 dX4_takeLetters_31 rfl ?_
        refine V_dup (Y := m_X4_takeLetters) (pc := 32) dX4_takeLetters_32 rfl ?_
        refine V_gi (Y := m_X4_takeLetters) (pc := 33) 3 kX4 sC_1 (by decide +kernel) rfl tw_102 dX4_takeLetters_33 ?_
        refine V_iconst (Y := m_X4_takeLetters) (pc := 36) (x := (1 : Int32)) dX4_takeLetters_36 (by decide +kernel) ?_
        refine V_iadd (Y := m_X4_takeLetters) (pc := 37) dX4_takeLetters_37 ?_
        refine V_pi (Y := m_X4_takeLetters) (pc := 38) 3 kX4 sC_1 (by decide +kernel) rfl rfl rfl tw_102 dX4_takeLetters_38 ?_
        refine V_goto (Y := m_X4_takeLetters) (pc := 41) (tgt := 5) dX4_takeLetters_41 (by decide +kernel) ?_
        exact V_sub [0] rfl (ih  (mset q2.2 1 3 ((q2.2 1 3) + (1 : Int32))) z  hf)
def f_X4_takeLetters_b0   (M : Mem) : Option (Int32 × Mem) :=
  f_X4_takeLetters_b5  FU  (mset M 1 4 (2 : Int32))
set_option maxRecDepth 20000 in
set_option maxHeartbeats 4000000 in
theorem ok_X4_takeLetters_b0 {l : Launch} {g : Gam} {b : Nat}    (M : Mem) (z : Int32 × Mem)  (hf : f_X4_takeLetters_b0  M = some z) : V l g (wC b) m_X4_takeLetters 0 [(0, .ref (b + 1))] [] M none z.2 := by
  unfold f_X4_takeLetters_b0 at hf
  refine V_aload_n (Y := m_X4_takeLetters) (pc := 0) 0 dX4_takeLetters_0 rfl ?_
  refine V_iconst (Y := m_X4_takeLetters) (pc := 1) (x := (2 : Int32)) dX4_takeLetters_1 (by decide +kernel) ?_
  refine V_pi (Y := m_X4_takeLetters) (pc := 2) 4 kX4 sC_1 (by decide +kernel) rfl rfl rfl tw_103 dX4_takeLetters_2 ?_
  exact V_sub [0] rfl (ok_X4_takeLetters_b5  FU  (mset M 1 4 (2 : Int32)) z  hf)
def f_X4_takeLetters  (M : Mem) : Option (Int32 × Mem) := f_X4_takeLetters_b0  M
set_option maxRecDepth 20000 in
set_option maxHeartbeats 4000000 in
theorem ok_X4_takeLetters {l : Launch} {g : Gam} {b : Nat} : ∀  (M : Mem) (z : Int32 × Mem), f_X4_takeLetters  M = some z → Cn l g (wC b) m_X4_takeLetters [.ref (b + 1)] M none z.2 := fun  M z  hf => Cn_of (by decide +kernel) (Nat.le_of_ble_eq_true rfl) (V_sub [0] rfl (ok_X4_takeLetters_b0  M z  hf))

abbrev m_X4_isDigit : Mth := (yX4_isDigit, cX4_isDigit, 1, some .boolean, 2)
theorem yf_X4_isDigit : YF m_X4_isDigit 1 := ⟨tw_601, tw_66, by decide +kernel, by decide +kernel⟩
def f_X4_isDigit_b0  (x0 : Int32) (M : Mem) : Option (Int32 × Mem) :=
  (f_X9_isWithin x0 (48 : Int32) (57 : Int32) M).bind fun q1 =>
  if z01 q1.1 = true then some (q1.1, q1.2) else none
set_option maxRecDepth 20000 in
set_option maxHeartbeats 4000000 in
theorem ok_X4_isDigit_b0 {l : Launch} {g : Gam} {b : Nat}   (x0 : Int32) (M : Mem) (z : Int32 × Mem)  (hf : f_X4_isDigit_b0 x0 M = some z) : V l g (wC b) m_X4_isDigit 0 [(0, .int x0)] [] M (some (.int z.1)) z.2 := by
  unfold f_X4_isDigit_b0 at hf
  refine V_iload_n (Y := m_X4_isDigit) (pc := 0) 0 dX4_isDigit_0 rfl ?_
  refine V_bipush (Y := m_X4_isDigit) (pc := 1) (x := (48 : Int32)) dX4_isDigit_1 (by decide +kernel) ?_
  refine V_bipush (Y := m_X4_isDigit) (pc := 3) (x := (57 : Int32)) dX4_isDigit_3 (by decide +kernel) ?_
  obtain ⟨q1, hq1, hf⟩ := g_bind hf
  refine V_cSNi (Y := m_X4_isDigit) (pc := 5) (As := [.int x0, .int (48 : Int32), .int (57 : Int32)]) yf_X9_isWithin (by decide +kernel) (ok_X9_isWithin x0 (48 : Int32) (57 : Int32) M _  hq1) tw_479 nw_594 rfl rfl (Nat.le_of_ble_eq_true rfl) dX4_isDigit_5 ?_
  obtain ⟨hz2, hf⟩ := g_if hf
  obtain rfl := Option.some.inj hf
  exact V_zret (Y := m_X4_isDigit) hz2 rfl dX4_isDigit_8
def f_X4_isDigit (x0 : Int32) (M : Mem) : Option (Int32 × Mem) := f_X4_isDigit_b0 x0 M
set_option maxRecDepth 20000 in
set_option maxHeartbeats 4000000 in
theorem ok_X4_isDigit {l : Launch} {g : Gam} {b : Nat} : ∀ (x0 : Int32) (M : Mem) (z : Int32 × Mem), f_X4_isDigit x0 M = some z → Cn l g (wC b) m_X4_isDigit [.int x0] M (some (.int z.1)) z.2 := fun x0 M z  hf => Cn_of (by decide +kernel) (Nat.le_of_ble_eq_true rfl) (V_sub [0] rfl (ok_X4_isDigit_b0 x0 M z  hf))

abbrev m_X4_takeDigits : Mth := (yX4_takeDigits, cX4_takeDigits, 1, none, 3)
theorem yf_X4_takeDigits : YF m_X4_takeDigits 0 := ⟨tw_605, tw_66, by decide +kernel, by decide +kernel⟩
def f_X4_takeDigits_b87  (s0 : Int32) (M : Mem) : Option (Int32 × Mem) :=
  some (0, (mset M 1 4 s0))
set_option maxRecDepth 20000 in
set_option maxHeartbeats 4000000 in
theorem ok_X4_takeDigits_b87 {l : Launch} {g : Gam} {b : Nat}   (s0 : Int32) (M : Mem) (z : Int32 × Mem)  (hf : f_X4_takeDigits_b87 s0 M = some z) : V l g (wC b) m_X4_takeDigits 87 [] [.int s0, .ref (b + 1)] M none z.2 := by
  unfold f_X4_takeDigits_b87 at hf
  refine V_pi (Y := m_X4_takeDigits) (pc := 87) 4 kX4 sC_1 (by decide +kernel) rfl rfl rfl tw_103 dX4_takeDigits_87 ?_
  obtain rfl := Option.some.inj hf
  exact V_vret (Y := m_X4_takeDigits) rfl dX4_takeDigits_90
def f_X4_takeDigits_b68   (M : Mem) : Option (Int32 × Mem) :=
  if ((M 1 3) - (M 1 2)) ≤ (4 : Int32) then
    f_X4_takeDigits_b87  (1 : Int32) M
  else
    f_X4_takeDigits_b87  (4 : Int32) M
set_option maxRecDepth 20000 in
set_option maxHeartbeats 4000000 in
theorem ok_X4_takeDigits_b68 {l : Launch} {g : Gam} {b : Nat}    (M : Mem) (z : Int32 × Mem)  (hf : f_X4_takeDigits_b68  M = some z) : V l g (wC b) m_X4_takeDigits 68 [(0, .ref (b + 1))] [] M none z.2 := by
  unfold f_X4_takeDigits_b68 at hf
  refine V_aload_n (Y := m_X4_takeDigits) (pc := 68) 0 dX4_takeDigits_68 rfl ?_
  refine V_aload_n (Y := m_X4_takeDigits) (pc := 69) 0 dX4_takeDigits_69 rfl ?_
  refine V_gi (Y := m_X4_takeDigits) (pc := 70) 3 kX4 sC_1 (by decide +kernel) rfl tw_102 dX4_takeDigits_70 ?_
  refine V_aload_n (Y := m_X4_takeDigits) (pc := 73) 0 dX4_takeDigits_73 rfl ?_
  refine V_gi (Y := m_X4_takeDigits) (pc := 74) 2 kX4 sC_1 (by decide +kernel) rfl tw_100 dX4_takeDigits_74 ?_
  refine V_isub (Y := m_X4_takeDigits) (pc := 77) dX4_takeDigits_77 ?_
  refine V_iconst (Y := m_X4_takeDigits) (pc := 78) (x := (4 : Int32)) dX4_takeDigits_78 (by decide +kernel) ?_
  refine V_icmp_le (Y := m_X4_takeDigits) (pc := 79) (tgt := 86) dX4_takeDigits_79 (by decide +kernel) hf (fun hf => ?_) (fun hf => ?_)
  · refine V_iconst (Y := m_X4_takeDigits) (pc := 86) (x := (1 : Int32)) dX4_takeDigits_86 (by decide +kernel) ?_
    exact V_sub [] rfl (ok_X4_takeDigits_b87  (1 : Int32) M z  hf)
  · refine V_iconst (Y := m_X4_takeDigits) (pc := 82) (x := (4 : Int32)) dX4_takeDigits_82 (by decide +kernel) ?_
    refine V_goto (Y := m_X4_takeDigits) (pc := 83) (tgt := 87) dX4_takeDigits_83 (by decide +kernel) ?_
    exact V_sub [] rfl (ok_X4_takeDigits_b87  (4 : Int32) M z  hf)
def f_X4_takeDigits_b5  : Nat → Mem → Option (Int32 × Mem)
  | 0, _ => none
  | n + 1, M =>
    if (M 1 1) ≤ (M 1 3) then
      f_X4_takeDigits_b68   M
    else
      if ixb (M 1 3) 96 = true then
      (f_X4_isDigit (M 2 (ix (M 1 3))) M).bind fun q2 =>
      if q2.1 = 0 then
        f_X4_takeDigits_b68   q2.2
      else
        if ixb (q2.2 1 3) 96 = true then
        f_X4_takeDigits_b5  n  (mset (mset q2.2 1 5 ((((q2.2 1 5) * (10 : Int32)) + (q2.2 2 (ix (q2.2 1 3)))) - (48 : Int32))) 1 3 (((mset q2.2 1 5 ((((q2.2 1 5) * (10 : Int32)) + (q2.2 2 (ix (q2.2 1 3)))) - (48 : Int32))) 1 3) + (1 : Int32)))
        else none
      else none
set_option maxRecDepth 20000 in
set_option maxHeartbeats 4000000 in
theorem ok_X4_takeDigits_b5 {l : Launch} {g : Gam} {b : Nat}   : ∀ (n : Nat)  (M : Mem) (z : Int32 × Mem), f_X4_takeDigits_b5  n  M = some z → V l g (wC b) m_X4_takeDigits 5 [(0, .ref (b + 1))] [] M none z.2 := by
  intro n
  induction n with
  | zero =>
    intro  M z  hf
    cases hf
  | succ n ih =>
    intro  M z  hf
    rw [f_X4_takeDigits_b5] at hf
    refine V_aload_n (Y := m_X4_takeDigits) (pc := 5) 0 dX4_takeDigits_5 rfl ?_
    refine V_gi (Y := m_X4_takeDigits) (pc := 6) 3 kX4 sC_1 (by decide +kernel) rfl tw_102 dX4_takeDigits_6 ?_
    refine V_aload_n (Y := m_X4_takeDigits) (pc := 9) 0 dX4_takeDigits_9 rfl ?_
    refine V_gi (Y := m_X4_takeDigits) (pc := 10) 1 kX4 sC_1 (by decide +kernel) rfl tw_98 dX4_takeDigits_10 ?_
    refine V_icmp_ge (Y := m_X4_takeDigits) (pc := 13) (tgt := 68) dX4_takeDigits_13 (by decide +kernel) hf (fun hf => ?_) (fun hf => ?_)
    · exact V_sub [0] rfl (ok_X4_takeDigits_b68   M z  hf)
    · refine V_aload_n (Y := m_X4_takeDigits) (pc := 16) 0 dX4_takeDigits_16 rfl ?_
      refine V_grL (Y := m_X4_takeDigits) (pc := 17) (x := 2) 0 kX4 sC_1 (by decide +kernel) rfl rfl tw_97 dX4_takeDigits_17 ?_
      refine V_aload_n (Y := m_X4_takeDigits) (pc := 20) 0 dX4_takeDigits_20 rfl ?_
      refine V_gi (Y := m_X4_takeDigits) (pc := 21) 3 kX4 sC_1 (by decide +kernel) rfl tw_102 dX4_takeDigits_21 ?_
      obtain ⟨hi1, hf⟩ := g_if hf
      refine V_iald (Y := m_X4_takeDigits) (pc := 24) sC_2 hi1 dX4_takeDigits_24 ?_
      obtain ⟨q2, hq2, hf⟩ := g_bind hf
      refine V_cSi (Y := m_X4_takeDigits) (pc := 25) (As := [.int (M 2 (ix (M 1 3)))]) yf_X4_isDigit (by decide +kernel) (ok_X4_isDigit (M 2 (ix (M 1 3))) M _  hq2) tw_600 tw_599 rfl rfl (Nat.le_of_ble_eq_true rfl) dX4_takeDigits_25 ?_
      refine V_if_eq (Y := m_X4_takeDigits) (pc := 28) (tgt := 68) dX4_takeDigits_28 (by decide +kernel) hf (fun hf => ?_) (fun hf => ?_)
      · exact V_sub [0] rfl (ok_X4_takeDigits_b68   q2.2 z  hf)
      · refine V_aload_n (Y := m_X4_takeDigits) (pc := 31) 0 dX4_takeDigits_31 rfl ?_
        refine V_aload_n (Y := m_X4_takeDigits) (pc := 32) 0 dX4_takeDigits_32 rfl ?_
        refine V_gi (Y := m_X4_takeDigits) (pc := 33) 5 kX4 sC_1 (by decide +kernel) rfl tw_104 dX4_takeDigits_33 ?_
        refine V_bipush (Y := m_X4_takeDigits) (pc := 36) (x := (10 : Int32)) dX4_takeDigits_36 (by decide +kernel) ?_
        refine V_imul (Y := m_X4_takeDigits) (pc := 38) dX4_takeDigits_38 ?_
        refine V_aload_n (Y := m_X4_takeDigits) (pc := 39) 0 dX4_takeDigits_39 rfl ?_
        refine V_grL (Y := m_X4_takeDigits) (pc := 40) (x := 2) 0 kX4 sC_1 (by decide +kernel) rfl rfl tw_97 dX4_takeDigits_40 ?_
        refine V_aload_n (Y := m_X4_takeDigits) (pc := 43) 0 dX4_takeDigits_43 rfl ?_
        refine V_gi (Y := m_X4_takeDigits) (pc := 44) 3 kX4 sC_1 (by decide +kernel) rfl tw_102 dX4_takeDigits_44 ?_
        obtain ⟨hi3, hf⟩ := g_if hf
        refine V_iald (Y := m_X4_takeDigits) (pc := 47) sC_2 hi3 dX4_takeDigits_47 ?_
        refine V_iadd (Y := m_X4_takeDigits) (pc := 48) dX4_takeDigits_48 ?_
        refine V_bipush (Y := m_X4_takeDigits) (pc := 49) (x := (48 : Int32)) dX4_takeDigits_49 (by decide +kernel) ?_
        refine V_isub (Y := m_X4_takeDigits) (pc := 51) dX4_takeDigits_51 ?_
        refine V_pi (Y := m_X4_takeDigits) (pc := 52) 5 kX4 sC_1 (by decide +kernel) rfl rfl rfl tw_104 dX4_takeDigits_52 ?_
        refine V_aload_n (Y := m_X4_takeDigits) (pc := 55) 0 dX4_takeDigits_55 rfl ?_
        refine V_dup (Y := m_X4_takeDigits) (pc := 56) dX4_takeDigits_56 rfl ?_
        refine V_gi (Y := m_X4_takeDigits) (pc := 57) 3 kX4 sC_1 (by decide +kernel) rfl tw_102 dX4_takeDigits_57 ?_
        refine V_iconst (Y := m_X4_takeDigits) (pc := 60) (x := (1 : Int32)) dX4_takeDigits_60 (by decide +kernel) ?_
        refine V_iadd (Y := m_X4_takeDigits) (pc := 61) dX4_takeDigits_61 ?_
        refine V_pi (Y := m_X4_takeDigits) (pc := 62) 3 kX4 sC_1 (by decide +kernel) rfl rfl rfl tw_102 dX4_takeDigits_62 ?_
        refine V_goto (Y := m_X4_takeDigits) (pc := 65) (tgt := 5) dX4_takeDigits_65 (by decide +kernel) ?_
        exact V_sub [0] rfl (ih  (mset (mset q2.2 1 5 ((((q2.2 1 5) * (10 : Int32)) + (q2.2 2 (ix (q2.2 1 3)))) - (48 : Int32))) 1 3 (((mset q2.2 1 5 ((((q2.2 1 5) * (10 : Int32)) + (q2.2 2 (ix (q2.2 1 3)))) - (48 : Int32))) 1 3) + (1 : Int32))) z  hf)
def f_X4_takeDigits_b0   (M : Mem) : Option (Int32 × Mem) :=
  f_X4_takeDigits_b5  FU  (mset M 1 5 (0 : Int32))
set_option maxRecDepth 20000 in
set_option maxHeartbeats 4000000 in
theorem ok_X4_takeDigits_b0 {l : Launch} {g : Gam} {b : Nat}    (M : Mem) (z : Int32 × Mem)  (hf : f_X4_takeDigits_b0  M = some z) : V l g (wC b) m_X4_takeDigits 0 [(0, .ref (b + 1))] [] M none z.2 := by
  unfold f_X4_takeDigits_b0 at hf
  refine V_aload_n (Y := m_X4_takeDigits) (pc := 0) 0 dX4_takeDigits_0 rfl ?_
  refine V_iconst (Y := m_X4_takeDigits) (pc := 1) (x := (0 : Int32)) dX4_takeDigits_1 (by decide +kernel) ?_
  refine V_pi (Y := m_X4_takeDigits) (pc := 2) 5 kX4 sC_1 (by decide +kernel) rfl rfl rfl tw_104 dX4_takeDigits_2 ?_
  exact V_sub [0] rfl (ok_X4_takeDigits_b5  FU  (mset M 1 5 (0 : Int32)) z  hf)
def f_X4_takeDigits  (M : Mem) : Option (Int32 × Mem) := f_X4_takeDigits_b0  M
set_option maxRecDepth 20000 in
set_option maxHeartbeats 4000000 in
theorem ok_X4_takeDigits {l : Launch} {g : Gam} {b : Nat} : ∀  (M : Mem) (z : Int32 × Mem), f_X4_takeDigits  M = some z → Cn l g (wC b) m_X4_takeDigits [.ref (b + 1)] M none z.2 := fun  M z  hf => Cn_of (by decide +kernel) (Nat.le_of_ble_eq_true rfl) (V_sub [0] rfl (ok_X4_takeDigits_b0  M z  hf))

abbrev m_X4_step : Mth := (yX4_step, cX4_step, 3, none, 4)
theorem yf_X4_step : YF m_X4_step 0 := ⟨tw_590, tw_66, by decide +kernel, by decide +kernel⟩
def f_X4_step_b173  (x1 : Int32) (x2 : Int32) (M : Mem) : Option (Int32 × Mem) :=
  if x1 = 0 then
    some (0, M)
  else
    if (M 1 4) = 0 then
      some (0, M)
    else
      if (M 1 2) = x2 then
        some (0, (mset M 1 4 (4 : Int32)))
      else
        some (0, M)
set_option maxRecDepth 20000 in
set_option maxHeartbeats 4000000 in
theorem ok_X4_step_b173 {l : Launch} {g : Gam} {b : Nat}   (x1 : Int32) (x2 : Int32) (M : Mem) (z : Int32 × Mem)  (hf : f_X4_step_b173 x1 x2 M = some z) : V l g (wC b) m_X4_step 173 [(0, .ref (b + 1)), (1, .int x1), (2, .int x2)] [] M none z.2 := by
  unfold f_X4_step_b173 at hf
  refine V_iload_n (Y := m_X4_step) (pc := 173) 1 dX4_step_173 rfl ?_
  refine V_if_eq (Y := m_X4_step) (pc := 174) (tgt := 197) dX4_step_174 (by decide +kernel) hf (fun hf => ?_) (fun hf => ?_)
  · obtain rfl := Option.some.inj hf
    exact V_vret (Y := m_X4_step) rfl dX4_step_197
  · refine V_aload_n (Y := m_X4_step) (pc := 177) 0 dX4_step_177 rfl ?_
    refine V_gi (Y := m_X4_step) (pc := 178) 4 kX4 sC_1 (by decide +kernel) rfl tw_103 dX4_step_178 ?_
    refine V_if_eq (Y := m_X4_step) (pc := 181) (tgt := 197) dX4_step_181 (by decide +kernel) hf (fun hf => ?_) (fun hf => ?_)
    · obtain rfl := Option.some.inj hf
      exact V_vret (Y := m_X4_step) rfl dX4_step_197
    · refine V_aload_n (Y := m_X4_step) (pc := 184) 0 dX4_step_184 rfl ?_
      refine V_gi (Y := m_X4_step) (pc := 185) 2 kX4 sC_1 (by decide +kernel) rfl tw_100 dX4_step_185 ?_
      refine V_iload_n (Y := m_X4_step) (pc := 188) 2 dX4_step_188 rfl ?_
      refine V_icmp_ne (Y := m_X4_step) (pc := 189) (tgt := 197) dX4_step_189 (by decide +kernel) hf (fun hf => ?_) (fun hf => ?_)
      · obtain rfl := Option.some.inj hf
        exact V_vret (Y := m_X4_step) rfl dX4_step_197
      · refine V_aload_n (Y := m_X4_step) (pc := 192) 0 dX4_step_192 rfl ?_
        refine V_iconst (Y := m_X4_step) (pc := 193) (x := (4 : Int32)) dX4_step_193 (by decide +kernel) ?_
        refine V_pi (Y := m_X4_step) (pc := 194) 4 kX4 sC_1 (by decide +kernel) rfl rfl rfl tw_103 dX4_step_194 ?_
        obtain rfl := Option.some.inj hf
        exact V_vret (Y := m_X4_step) rfl dX4_step_197
def f_X4_step_b73  (x1 : Int32) (x2 : Int32) (M : Mem) : Option (Int32 × Mem) :=
  if ((mset M 1 3 (M 1 2)) 1 2) < ((mset M 1 3 (M 1 2)) 1 1) then
    if ixb ((mset M 1 3 (M 1 2)) 1 2) 96 = true then
    (f_X4_isLetter ((mset M 1 3 (M 1 2)) 2 (ix ((mset M 1 3 (M 1 2)) 1 2))) (mset M 1 3 (M 1 2))).bind fun q2 =>
    if q2.1 = 0 then
      if ixb (q2.2 1 2) 96 = true then
      (f_X4_isDigit (q2.2 2 (ix (q2.2 1 2))) q2.2).bind fun q4 =>
      if q4.1 = 0 then
        if ixb ((mset q4.2 1 4 (3 : Int32)) 1 2) 96 = true then
        some (0, (mset (mset (mset q4.2 1 4 (3 : Int32)) 1 5 ((mset q4.2 1 4 (3 : Int32)) 2 (ix ((mset q4.2 1 4 (3 : Int32)) 1 2)))) 1 3 (((mset (mset q4.2 1 4 (3 : Int32)) 1 5 ((mset q4.2 1 4 (3 : Int32)) 2 (ix ((mset q4.2 1 4 (3 : Int32)) 1 2)))) 1 2) + (1 : Int32))))
        else none
      else
        (f_X4_takeDigits  q4.2).bind fun q6 =>
        f_X4_step_b173  x1 x2 q6.2
      else none
    else
      (f_X4_takeLetters  q2.2).bind fun q7 =>
      f_X4_step_b173  x1 x2 q7.2
    else none
  else
    f_X4_step_b173  x1 x2 (mset (mset M 1 3 (M 1 2)) 1 4 (0 : Int32))
set_option maxRecDepth 20000 in
set_option maxHeartbeats 4000000 in
theorem ok_X4_step_b73 {l : Launch} {g : Gam} {b : Nat}   (x1 : Int32) (x2 : Int32) (M : Mem) (z : Int32 × Mem)  (hf : f_X4_step_b73 x1 x2 M = some z) : V l g (wC b) m_X4_step 73 [(0, .ref (b + 1)), (1, .int x1), (2, .int x2)] [] M none z.2 := by
  unfold f_X4_step_b73 at hf
  refine V_aload_n (Y := m_X4_step) (pc := 73) 0 dX4_step_73 rfl ?_
  refine V_aload_n (Y := m_X4_step) (pc := 74) 0 dX4_step_74 rfl ?_
  refine V_gi (Y := m_X4_step) (pc := 75) 2 kX4 sC_1 (by decide +kernel) rfl tw_100 dX4_step_75 ?_
  refine V_pi (Y := m_X4_step) (pc := 78) 3 kX4 sC_1 (by decide +kernel) rfl rfl rfl tw_102 dX4_step_78 ?_
  refine V_aload_n (Y := m_X4_step) (pc := 81) 0 dX4_step_81 rfl ?_
  refine V_gi (Y := m_X4_step) (pc := 82) 2 kX4 sC_1 (by decide +kernel) rfl tw_100 dX4_step_82 ?_
  refine V_aload_n (Y := m_X4_step) (pc := 85) 0 dX4_step_85 rfl ?_
  refine V_gi (Y := m_X4_step) (pc := 86) 1 kX4 sC_1 (by decide +kernel) rfl tw_98 dX4_step_86 ?_
  refine V_icmp_lt (Y := m_X4_step) (pc := 89) (tgt := 100) dX4_step_89 (by decide +kernel) hf (fun hf => ?_) (fun hf => ?_)
  · refine V_aload_n (Y := m_X4_step) (pc := 100) 0 dX4_step_100 rfl ?_
    refine V_grL (Y := m_X4_step) (pc := 101) (x := 2) 0 kX4 sC_1 (by decide +kernel) rfl rfl tw_97 dX4_step_101 ?_
    refine V_aload_n (Y := m_X4_step) (pc := 104) 0 dX4_step_104 rfl ?_
    refine V_gi (Y := m_X4_step) (pc := 105) 2 kX4 sC_1 (by decide +kernel) rfl tw_100 dX4_step_105 ?_
    obtain ⟨hi1, hf⟩ := g_if hf
    refine V_iald (Y := m_X4_step) (pc := 108) sC_2 hi1 dX4_step_108 ?_
    obtain ⟨q2, hq2, hf⟩ := g_bind hf
    refine V_cSi (Y := m_X4_step) (pc := 109) (As := [.int ((mset M 1 3 (M 1 2)) 2 (ix ((mset M 1 3 (M 1 2)) 1 2)))]) yf_X4_isLetter (by decide +kernel) (ok_X4_isLetter ((mset M 1 3 (M 1 2)) 2 (ix ((mset M 1 3 (M 1 2)) 1 2))) (mset M 1 3 (M 1 2)) _  hq2) tw_592 tw_591 rfl rfl (Nat.le_of_ble_eq_true rfl) dX4_step_109 ?_
    refine V_if_eq (Y := m_X4_step) (pc := 112) (tgt := 122) dX4_step_112 (by decide +kernel) hf (fun hf => ?_) (fun hf => ?_)
    · refine V_aload_n (Y := m_X4_step) (pc := 122) 0 dX4_step_122 rfl ?_
      refine V_grL (Y := m_X4_step) (pc := 123) (x := 2) 0 kX4 sC_1 (by decide +kernel) rfl rfl tw_97 dX4_step_123 ?_
      refine V_aload_n (Y := m_X4_step) (pc := 126) 0 dX4_step_126 rfl ?_
      refine V_gi (Y := m_X4_step) (pc := 127) 2 kX4 sC_1 (by decide +kernel) rfl tw_100 dX4_step_127 ?_
      obtain ⟨hi3, hf⟩ := g_if hf
      refine V_iald (Y := m_X4_step) (pc := 130) sC_2 hi3 dX4_step_130 ?_
      obtain ⟨q4, hq4, hf⟩ := g_bind hf
      refine V_cSi (Y := m_X4_step) (pc := 131) (As := [.int (q2.2 2 (ix (q2.2 1 2)))]) yf_X4_isDigit (by decide +kernel) (ok_X4_isDigit (q2.2 2 (ix (q2.2 1 2))) q2.2 _  hq4) tw_600 tw_599 rfl rfl (Nat.le_of_ble_eq_true rfl) dX4_step_131 ?_
      refine V_if_eq (Y := m_X4_step) (pc := 134) (tgt := 144) dX4_step_134 (by decide +kernel) hf (fun hf => ?_) (fun hf => ?_)
      · refine V_aload_n (Y := m_X4_step) (pc := 144) 0 dX4_step_144 rfl ?_
        refine V_iconst (Y := m_X4_step) (pc := 145) (x := (3 : Int32)) dX4_step_145 (by decide +kernel) ?_
        refine V_pi (Y := m_X4_step) (pc := 146) 4 kX4 sC_1 (by decide +kernel) rfl rfl rfl tw_103 dX4_step_146 ?_
        refine V_aload_n (Y := m_X4_step) (pc := 149) 0 dX4_step_149 rfl ?_
        refine V_aload_n (Y := m_X4_step) (pc := 150) 0 dX4_step_150 rfl ?_
        refine V_grL (Y := m_X4_step) (pc := 151) (x := 2) 0 kX4 sC_1 (by decide +kernel) rfl rfl tw_97 dX4_step_151 ?_
        refine V_aload_n (Y := m_X4_step) (pc := 154) 0 dX4_step_154 rfl ?_
        refine V_gi (Y := m_X4_step) (pc := 155) 2 kX4 sC_1 (by decide +kernel) rfl tw_100 dX4_step_155 ?_
        obtain ⟨hi5, hf⟩ := g_if hf
        refine V_iald (Y := m_X4_step) (pc := 158) sC_2 hi5 dX4_step_158 ?_
        refine V_pi (Y := m_X4_step) (pc := 159) 5 kX4 sC_1 (by decide +kernel) rfl rfl rfl tw_104 dX4_step_159 ?_
        refine V_aload_n (Y := m_X4_step) (pc := 162) 0 dX4_step_162 rfl ?_
        refine V_aload_n (Y := m_X4_step) (pc := 163) 0 dX4_step_163 rfl ?_
        refine V_gi (Y := m_X4_step) (pc := 164) 2 kX4 sC_1 (by decide +kernel) rfl tw_100 dX4_step_164 ?_
        refine V_iconst (Y := m_X4_step) (pc := 167) (x := (1 : Int32)) dX4_step_167 (by decide +kernel) ?_
        refine V_iadd (Y := m_X4_step) (pc := 168) dX4_step_168 ?_
        refine V_pi (Y := m_X4_step) (pc := 169) 3 kX4 sC_1 (by decide +kernel) rfl rfl rfl tw_102 dX4_step_169 ?_
        obtain rfl := Option.some.inj hf
        exact V_vret (Y := m_X4_step) rfl dX4_step_172
      · refine V_aload_n (Y := m_X4_step) (pc := 137) 0 dX4_step_137 rfl ?_
        obtain ⟨q6, hq6, hf⟩ := g_bind hf
        refine V_cVv (Y := m_X4_step) (pc := 138) (As := []) yf_X4_takeDigits kX4 sC_1 (by decide +kernel) (ok_X4_takeDigits  q4.2 _  hq6) tw_604 tw_2 tw_602 rfl rfl (Nat.le_of_ble_eq_true rfl) dX4_step_138 ?_
        refine V_goto (Y := m_X4_step) (pc := 141) (tgt := 173) dX4_step_141 (by decide +kernel) ?_
        exact V_sub [0, 1, 2] rfl (ok_X4_step_b173  x1 x2 q6.2 z  hf)
    · refine V_aload_n (Y := m_X4_step) (pc := 115) 0 dX4_step_115 rfl ?_
      obtain ⟨q7, hq7, hf⟩ := g_bind hf
      refine V_cVv (Y := m_X4_step) (pc := 116) (As := []) yf_X4_takeLetters kX4 sC_1 (by decide +kernel) (ok_X4_takeLetters  q2.2 _  hq7) tw_597 tw_1 tw_595 rfl rfl (Nat.le_of_ble_eq_true rfl) dX4_step_116 ?_
      refine V_goto (Y := m_X4_step) (pc := 119) (tgt := 173) dX4_step_119 (by decide +kernel) ?_
      exact V_sub [0, 1, 2] rfl (ok_X4_step_b173  x1 x2 q7.2 z  hf)
  · refine V_aload_n (Y := m_X4_step) (pc := 92) 0 dX4_step_92 rfl ?_
    refine V_iconst (Y := m_X4_step) (pc := 93) (x := (0 : Int32)) dX4_step_93 (by decide +kernel) ?_
    refine V_pi (Y := m_X4_step) (pc := 94) 4 kX4 sC_1 (by decide +kernel) rfl rfl rfl tw_103 dX4_step_94 ?_
    refine V_goto (Y := m_X4_step) (pc := 97) (tgt := 173) dX4_step_97 (by decide +kernel) ?_
    exact V_sub [0, 1, 2] rfl (ok_X4_step_b173  x1 x2 (mset (mset M 1 3 (M 1 2)) 1 4 (0 : Int32)) z  hf)
def f_X4_step_b35  : Nat → Int32 → Int32 → Mem → Option (Int32 × Mem)
  | 0, _, _, _ => none
  | n + 1, x1, x2, M =>
    if (M 1 1) ≤ (M 1 2) then
      f_X4_step_b73  x1 x2 M
    else
      if ixb (M 1 2) 96 = true then
      if (M 2 (ix (M 1 2))) = (32 : Int32) then
        f_X4_step_b35  n x1 x2 (mset M 1 2 ((M 1 2) + (1 : Int32)))
      else
        f_X4_step_b73  x1 x2 M
      else none
set_option maxRecDepth 20000 in
set_option maxHeartbeats 4000000 in
theorem ok_X4_step_b35 {l : Launch} {g : Gam} {b : Nat}   : ∀ (n : Nat) (x1 : Int32) (x2 : Int32) (M : Mem) (z : Int32 × Mem), f_X4_step_b35  n x1 x2 M = some z → V l g (wC b) m_X4_step 35 [(0, .ref (b + 1)), (1, .int x1), (2, .int x2)] [] M none z.2 := by
  intro n
  induction n with
  | zero =>
    intro x1 x2 M z  hf
    cases hf
  | succ n ih =>
    intro x1 x2 M z  hf
    rw [f_X4_step_b35] at hf
    refine V_aload_n (Y := m_X4_step) (pc := 35) 0 dX4_step_35 rfl ?_
    refine V_gi (Y := m_X4_step) (pc := 36) 2 kX4 sC_1 (by decide +kernel) rfl tw_100 dX4_step_36 ?_
    refine V_aload_n (Y := m_X4_step) (pc := 39) 0 dX4_step_39 rfl ?_
    refine V_gi (Y := m_X4_step) (pc := 40) 1 kX4 sC_1 (by decide +kernel) rfl tw_98 dX4_step_40 ?_
    refine V_icmp_ge (Y := m_X4_step) (pc := 43) (tgt := 73) dX4_step_43 (by decide +kernel) hf (fun hf => ?_) (fun hf => ?_)
    · exact V_sub [0, 1, 2] rfl (ok_X4_step_b73  x1 x2 M z  hf)
    · refine V_aload_n (Y := m_X4_step) (pc := 46) 0 dX4_step_46 rfl ?_
      refine V_grL (Y := m_X4_step) (pc := 47) (x := 2) 0 kX4 sC_1 (by decide +kernel) rfl rfl tw_97 dX4_step_47 ?_
      refine V_aload_n (Y := m_X4_step) (pc := 50) 0 dX4_step_50 rfl ?_
      refine V_gi (Y := m_X4_step) (pc := 51) 2 kX4 sC_1 (by decide +kernel) rfl tw_100 dX4_step_51 ?_
      obtain ⟨hi1, hf⟩ := g_if hf
      refine V_iald (Y := m_X4_step) (pc := 54) sC_2 hi1 dX4_step_54 ?_
      refine V_bipush (Y := m_X4_step) (pc := 55) (x := (32 : Int32)) dX4_step_55 (by decide +kernel) ?_
      refine V_icmp_ne (Y := m_X4_step) (pc := 57) (tgt := 73) dX4_step_57 (by decide +kernel) hf (fun hf => ?_) (fun hf => ?_)
      · exact V_sub [0, 1, 2] rfl (ok_X4_step_b73  x1 x2 M z  hf)
      · refine V_aload_n (Y := m_X4_step) (pc := 60) 0 dX4_step_60 rfl ?_
        refine V_dup (Y := m_X4_step) (pc := 61) dX4_step_61 rfl ?_
        refine V_gi (Y := m_X4_step) (pc := 62) 2 kX4 sC_1 (by decide +kernel) rfl tw_100 dX4_step_62 ?_
        refine V_iconst (Y := m_X4_step) (pc := 65) (x := (1 : Int32)) dX4_step_65 (by decide +kernel) ?_
        refine V_iadd (Y := m_X4_step) (pc := 66) dX4_step_66 ?_
        refine V_pi (Y := m_X4_step) (pc := 67) 2 kX4 sC_1 (by decide +kernel) rfl rfl rfl tw_100 dX4_step_67 ?_
        refine V_goto (Y := m_X4_step) (pc := 70) (tgt := 35) dX4_step_70 (by decide +kernel) ?_
        exact V_sub [0, 1, 2] rfl (ih x1 x2 (mset M 1 2 ((M 1 2) + (1 : Int32))) z  hf)
def f_X4_step_b21  (s0 : Int32) (M : Mem) : Option (Int32 × Mem) :=
  f_X4_step_b35  FU s0 (M 1 3) (mset M 1 2 (M 1 3))
set_option maxRecDepth 20000 in
set_option maxHeartbeats 4000000 in
theorem ok_X4_step_b21 {l : Launch} {g : Gam} {b : Nat}   (s0 : Int32) (M : Mem) (z : Int32 × Mem)  (hf : f_X4_step_b21 s0 M = some z) : V l g (wC b) m_X4_step 21 [(0, .ref (b + 1))] [.int s0] M none z.2 := by
  unfold f_X4_step_b21 at hf
  refine V_istore_n (Y := m_X4_step) (pc := 21) [(1, .int s0), (0, .ref (b + 1))] dX4_step_21 (by decide +kernel) rfl ?_
  refine V_aload_n (Y := m_X4_step) (pc := 22) 1 dX4_step_22 rfl ?_
  refine V_gi (Y := m_X4_step) (pc := 23) 3 kX4 sC_1 (by decide +kernel) rfl tw_102 dX4_step_23 ?_
  refine V_istore_n (Y := m_X4_step) (pc := 26) [(2, .int (M 1 3)), (1, .int s0), (0, .ref (b + 1))] dX4_step_26 (by decide +kernel) rfl ?_
  refine V_aload_n (Y := m_X4_step) (pc := 27) 2 dX4_step_27 rfl ?_
  refine V_aload_n (Y := m_X4_step) (pc := 28) 2 dX4_step_28 rfl ?_
  refine V_gi (Y := m_X4_step) (pc := 29) 3 kX4 sC_1 (by decide +kernel) rfl tw_102 dX4_step_29 ?_
  refine V_pi (Y := m_X4_step) (pc := 32) 2 kX4 sC_1 (by decide +kernel) rfl rfl rfl tw_100 dX4_step_32 ?_
  exact V_sub [2, 1, 0] rfl (ok_X4_step_b35  FU s0 (M 1 3) (mset M 1 2 (M 1 3)) z  hf)
def f_X4_step_b16   (M : Mem) : Option (Int32 × Mem) :=
  f_X4_step_b21  (1 : Int32) M
set_option maxRecDepth 20000 in
set_option maxHeartbeats 4000000 in
theorem ok_X4_step_b16 {l : Launch} {g : Gam} {b : Nat}    (M : Mem) (z : Int32 × Mem)  (hf : f_X4_step_b16  M = some z) : V l g (wC b) m_X4_step 16 [(0, .ref (b + 1))] [] M none z.2 := by
  unfold f_X4_step_b16 at hf
  refine V_iconst (Y := m_X4_step) (pc := 16) (x := (1 : Int32)) dX4_step_16 (by decide +kernel) ?_
  refine V_goto (Y := m_X4_step) (pc := 17) (tgt := 21) dX4_step_17 (by decide +kernel) ?_
  exact V_sub [0] rfl (ok_X4_step_b21  (1 : Int32) M z  hf)
def f_X4_step_b0   (M : Mem) : Option (Int32 × Mem) :=
  if (M 1 4) = (2 : Int32) then
    f_X4_step_b16   M
  else
    if (M 1 4) = (1 : Int32) then
      f_X4_step_b16   M
    else
      f_X4_step_b21  (0 : Int32) M
set_option maxRecDepth 20000 in
set_option maxHeartbeats 4000000 in
theorem ok_X4_step_b0 {l : Launch} {g : Gam} {b : Nat}    (M : Mem) (z : Int32 × Mem)  (hf : f_X4_step_b0  M = some z) : V l g (wC b) m_X4_step 0 [(0, .ref (b + 1))] [] M none z.2 := by
  unfold f_X4_step_b0 at hf
  refine V_aload_n (Y := m_X4_step) (pc := 0) 0 dX4_step_0 rfl ?_
  refine V_gi (Y := m_X4_step) (pc := 1) 4 kX4 sC_1 (by decide +kernel) rfl tw_103 dX4_step_1 ?_
  refine V_iconst (Y := m_X4_step) (pc := 4) (x := (2 : Int32)) dX4_step_4 (by decide +kernel) ?_
  refine V_icmp_eq (Y := m_X4_step) (pc := 5) (tgt := 16) dX4_step_5 (by decide +kernel) hf (fun hf => ?_) (fun hf => ?_)
  · exact V_sub [0] rfl (ok_X4_step_b16   M z  hf)
  · refine V_aload_n (Y := m_X4_step) (pc := 8) 0 dX4_step_8 rfl ?_
    refine V_gi (Y := m_X4_step) (pc := 9) 4 kX4 sC_1 (by decide +kernel) rfl tw_103 dX4_step_9 ?_
    refine V_iconst (Y := m_X4_step) (pc := 12) (x := (1 : Int32)) dX4_step_12 (by decide +kernel) ?_
    refine V_icmp_ne (Y := m_X4_step) (pc := 13) (tgt := 20) dX4_step_13 (by decide +kernel) hf (fun hf => ?_) (fun hf => ?_)
    · refine V_iconst (Y := m_X4_step) (pc := 20) (x := (0 : Int32)) dX4_step_20 (by decide +kernel) ?_
      exact V_sub [0] rfl (ok_X4_step_b21  (0 : Int32) M z  hf)
    · exact V_sub [0] rfl (ok_X4_step_b16   M z  hf)
def f_X4_step  (M : Mem) : Option (Int32 × Mem) := f_X4_step_b0  M
set_option maxRecDepth 20000 in
set_option maxHeartbeats 4000000 in
theorem ok_X4_step {l : Launch} {g : Gam} {b : Nat} : ∀  (M : Mem) (z : Int32 × Mem), f_X4_step  M = some z → Cn l g (wC b) m_X4_step [.ref (b + 1)] M none z.2 := fun  M z  hf => Cn_of (by decide +kernel) (Nat.le_of_ble_eq_true rfl) (V_sub [0] rfl (ok_X4_step_b0  M z  hf))

abbrev m_X4_isSpelt : Mth := (yX4_isSpelt, cX4_isSpelt, 3, some .boolean, 6)
theorem yf_X4_isSpelt : YF m_X4_isSpelt 1 := ⟨tw_614, tw_66, by decide +kernel, by decide +kernel⟩
def f_X4_isSpelt_b28  : Nat → Nat → Int32 → Mem → Option (Int32 × Mem)
  | 0, _, _, _ => none
  | n + 1, a1, x2, M =>
    (f_strlen a1 M).bind fun q1 =>
    if q1.1 ≤ x2 then
      some ((1 : Int32), q1.2)
    else
      if ixb ((q1.2 1 2) + x2) 96 = true then
      (f_strchar a1 x2 q1.2).bind fun q3 =>
      if (q1.2 2 (ix ((q1.2 1 2) + x2))) = q3.1 then
        f_X4_isSpelt_b28  n a1 (x2 + (1 : Int32)) q3.2
      else
        some ((0 : Int32), q3.2)
      else none
set_option maxRecDepth 20000 in
set_option maxHeartbeats 4000000 in
theorem ok_X4_isSpelt_b28 {l : Launch} {g : Gam} {b : Nat}   : ∀ (n : Nat) (a1 : Nat) (x2 : Int32) (M : Mem) (z : Int32 × Mem), f_X4_isSpelt_b28  n a1 x2 M = some z → V l g (wC b) m_X4_isSpelt 28 [(0, .ref (b + 1)), (1, .ref (g.2.2.2.2.2.1 a1)), (2, .int x2)] [] M (some (.int z.1)) z.2 := by
  intro n
  induction n with
  | zero =>
    intro a1 x2 M z  hf
    cases hf
  | succ n ih =>
    intro a1 x2 M z  hf
    rw [f_X4_isSpelt_b28] at hf
    refine V_iload_n (Y := m_X4_isSpelt) (pc := 28) 2 dX4_isSpelt_28 rfl ?_
    refine V_aload_n (Y := m_X4_isSpelt) (pc := 29) 1 dX4_isSpelt_29 rfl ?_
    obtain ⟨q1, hq1, hf⟩ := g_bind hf
    refine V_cStr (Y := m_X4_isSpelt) (pc := 30) (As := []) yf_strlen (by decide +kernel) (ok_strlen a1 M _ hq1) rfl (strlen_lt hq1) tw_616 tw_617 tw_615 rfl rfl (Nat.le_of_ble_eq_true rfl) dX4_isSpelt_30 ?_
    refine V_icmp_ge (Y := m_X4_isSpelt) (pc := 33) (tgt := 63) dX4_isSpelt_33 (by decide +kernel) hf (fun hf => ?_) (fun hf => ?_)
    · refine V_iconst (Y := m_X4_isSpelt) (pc := 63) (x := (1 : Int32)) dX4_isSpelt_63 (by decide +kernel) ?_
      obtain rfl := Option.some.inj hf
      exact V_zret (Y := m_X4_isSpelt) z01_1 rfl dX4_isSpelt_64
    · refine V_aload_n (Y := m_X4_isSpelt) (pc := 36) 0 dX4_isSpelt_36 rfl ?_
      refine V_grL (Y := m_X4_isSpelt) (pc := 37) (x := 2) 0 kX4 sC_1 (by decide +kernel) rfl rfl tw_97 dX4_isSpelt_37 ?_
      refine V_aload_n (Y := m_X4_isSpelt) (pc := 40) 0 dX4_isSpelt_40 rfl ?_
      refine V_gi (Y := m_X4_isSpelt) (pc := 41) 2 kX4 sC_1 (by decide +kernel) rfl tw_100 dX4_isSpelt_41 ?_
      refine V_iload_n (Y := m_X4_isSpelt) (pc := 44) 2 dX4_isSpelt_44 rfl ?_
      refine V_iadd (Y := m_X4_isSpelt) (pc := 45) dX4_isSpelt_45 ?_
      obtain ⟨hi2, hf⟩ := g_if hf
      refine V_iald (Y := m_X4_isSpelt) (pc := 46) sC_2 hi2 dX4_isSpelt_46 ?_
      refine V_aload_n (Y := m_X4_isSpelt) (pc := 47) 1 dX4_isSpelt_47 rfl ?_
      refine V_iload_n (Y := m_X4_isSpelt) (pc := 48) 2 dX4_isSpelt_48 rfl ?_
      obtain ⟨q3, hq3, hf⟩ := g_bind hf
      refine V_cStr (Y := m_X4_isSpelt) (pc := 49) (As := [.int x2]) yf_strchar (by decide +kernel) (ok_strchar a1 x2 q1.2 _ hq3) rfl (strchar_lt hq3) tw_626 tw_627 tw_625 rfl rfl (Nat.le_of_ble_eq_true rfl) dX4_isSpelt_49 ?_
      refine V_icmp_eq (Y := m_X4_isSpelt) (pc := 52) (tgt := 57) dX4_isSpelt_52 (by decide +kernel) hf (fun hf => ?_) (fun hf => ?_)
      · refine V_iinc (Y := m_X4_isSpelt) (pc := 57) (y := (x2 + (1 : Int32))) 2 [(2, .int (x2 + (1 : Int32))), (0, .ref (b + 1)), (1, .ref (g.2.2.2.2.2.1 a1))] dX4_isSpelt_57 rfl rfl (by decide +kernel) rfl ?_
        refine V_goto (Y := m_X4_isSpelt) (pc := 60) (tgt := 28) dX4_isSpelt_60 (by decide +kernel) ?_
        exact V_sub [1, 2, 0] rfl (ih a1 (x2 + (1 : Int32)) q3.2 z  hf)
      · refine V_iconst (Y := m_X4_isSpelt) (pc := 55) (x := (0 : Int32)) dX4_isSpelt_55 (by decide +kernel) ?_
        obtain rfl := Option.some.inj hf
        exact V_zret (Y := m_X4_isSpelt) z01_0 rfl dX4_isSpelt_56
def f_X4_isSpelt_b0  (a1 : Nat) (M : Mem) : Option (Int32 × Mem) :=
  if (M 1 4) = (2 : Int32) then
    (f_strlen a1 M).bind fun q1 =>
    if ((M 1 3) - (M 1 2)) = q1.1 then
      f_X4_isSpelt_b28  FU a1 (0 : Int32) q1.2
    else
      some ((0 : Int32), q1.2)
  else
    some ((0 : Int32), M)
set_option maxRecDepth 20000 in
set_option maxHeartbeats 4000000 in
theorem ok_X4_isSpelt_b0 {l : Launch} {g : Gam} {b : Nat}   (a1 : Nat) (M : Mem) (z : Int32 × Mem)  (hf : f_X4_isSpelt_b0 a1 M = some z) : V l g (wC b) m_X4_isSpelt 0 [(0, .ref (b + 1)), (1, .ref (g.2.2.2.2.2.1 a1))] [] M (some (.int z.1)) z.2 := by
  unfold f_X4_isSpelt_b0 at hf
  refine V_aload_n (Y := m_X4_isSpelt) (pc := 0) 0 dX4_isSpelt_0 rfl ?_
  refine V_gi (Y := m_X4_isSpelt) (pc := 1) 4 kX4 sC_1 (by decide +kernel) rfl tw_103 dX4_isSpelt_1 ?_
  refine V_iconst (Y := m_X4_isSpelt) (pc := 4) (x := (2 : Int32)) dX4_isSpelt_4 (by decide +kernel) ?_
  refine V_icmp_ne (Y := m_X4_isSpelt) (pc := 5) (tgt := 24) dX4_isSpelt_5 (by decide +kernel) hf (fun hf => ?_) (fun hf => ?_)
  · refine V_iconst (Y := m_X4_isSpelt) (pc := 24) (x := (0 : Int32)) dX4_isSpelt_24 (by decide +kernel) ?_
    obtain rfl := Option.some.inj hf
    exact V_zret (Y := m_X4_isSpelt) z01_0 rfl dX4_isSpelt_25
  · refine V_aload_n (Y := m_X4_isSpelt) (pc := 8) 0 dX4_isSpelt_8 rfl ?_
    refine V_gi (Y := m_X4_isSpelt) (pc := 9) 3 kX4 sC_1 (by decide +kernel) rfl tw_102 dX4_isSpelt_9 ?_
    refine V_aload_n (Y := m_X4_isSpelt) (pc := 12) 0 dX4_isSpelt_12 rfl ?_
    refine V_gi (Y := m_X4_isSpelt) (pc := 13) 2 kX4 sC_1 (by decide +kernel) rfl tw_100 dX4_isSpelt_13 ?_
    refine V_isub (Y := m_X4_isSpelt) (pc := 16) dX4_isSpelt_16 ?_
    refine V_aload_n (Y := m_X4_isSpelt) (pc := 17) 1 dX4_isSpelt_17 rfl ?_
    obtain ⟨q1, hq1, hf⟩ := g_bind hf
    refine V_cStr (Y := m_X4_isSpelt) (pc := 18) (As := []) yf_strlen (by decide +kernel) (ok_strlen a1 M _ hq1) rfl (strlen_lt hq1) tw_616 tw_617 tw_615 rfl rfl (Nat.le_of_ble_eq_true rfl) dX4_isSpelt_18 ?_
    refine V_icmp_eq (Y := m_X4_isSpelt) (pc := 21) (tgt := 26) dX4_isSpelt_21 (by decide +kernel) hf (fun hf => ?_) (fun hf => ?_)
    · refine V_iconst (Y := m_X4_isSpelt) (pc := 26) (x := (0 : Int32)) dX4_isSpelt_26 (by decide +kernel) ?_
      refine V_istore_n (Y := m_X4_isSpelt) (pc := 27) [(2, .int (0 : Int32)), (0, .ref (b + 1)), (1, .ref (g.2.2.2.2.2.1 a1))] dX4_isSpelt_27 (by decide +kernel) rfl ?_
      exact V_sub [1, 2, 0] rfl (ok_X4_isSpelt_b28  FU a1 (0 : Int32) q1.2 z  hf)
    · refine V_iconst (Y := m_X4_isSpelt) (pc := 24) (x := (0 : Int32)) dX4_isSpelt_24 (by decide +kernel) ?_
      obtain rfl := Option.some.inj hf
      exact V_zret (Y := m_X4_isSpelt) z01_0 rfl dX4_isSpelt_25
def f_X4_isSpelt (a1 : Nat) (M : Mem) : Option (Int32 × Mem) := f_X4_isSpelt_b0 a1 M
set_option maxRecDepth 20000 in
set_option maxHeartbeats 4000000 in
theorem ok_X4_isSpelt {l : Launch} {g : Gam} {b : Nat} : ∀ (a1 : Nat) (M : Mem) (z : Int32 × Mem), f_X4_isSpelt a1 M = some z → Cn l g (wC b) m_X4_isSpelt [.ref (b + 1), .ref (g.2.2.2.2.2.1 a1)] M (some (.int z.1)) z.2 := fun a1 M z  hf => Cn_of (by decide +kernel) (Nat.le_of_ble_eq_true rfl) (V_sub [0, 1] rfl (ok_X4_isSpelt_b0 a1 M z  hf))

abbrev m_X4_readKey : Mth := (yX4_readKey, cX4_readKey, 1, some .boolean, 7)
theorem yf_X4_readKey : YF m_X4_readKey 0 := ⟨tw_609, tw_66, by decide +kernel, by decide +kernel⟩
def f_X4_readKey_b42  (s0 : Int32) (M : Mem) : Option (Int32 × Mem) :=
  if ((mset M 1 6 s0) 1 6) = (-1000000005 : Int32) then
    some ((0 : Int32), (mset M 1 6 s0))
  else
    (f_X4_step  (mset M 1 6 s0)).bind fun q1 =>
    some ((1 : Int32), q1.2)
set_option maxRecDepth 20000 in
set_option maxHeartbeats 4000000 in
theorem ok_X4_readKey_b42 {l : Launch} {g : Gam} {b : Nat}   (s0 : Int32) (M : Mem) (z : Int32 × Mem)  (hf : f_X4_readKey_b42 s0 M = some z) : V l g (wC b) m_X4_readKey 42 [(0, .ref (b + 1))] [.int s0, .ref (b + 1)] M (some (.int z.1)) z.2 := by
  unfold f_X4_readKey_b42 at hf
  refine V_pi (Y := m_X4_readKey) (pc := 42) 6 kX4 sC_1 (by decide +kernel) rfl rfl rfl tw_106 dX4_readKey_42 ?_
  refine V_aload_n (Y := m_X4_readKey) (pc := 45) 0 dX4_readKey_45 rfl ?_
  refine V_gi (Y := m_X4_readKey) (pc := 46) 6 kX4 sC_1 (by decide +kernel) rfl tw_106 dX4_readKey_46 ?_
  refine V_ldc (Y := m_X4_readKey) (pc := 49) (x := (-1000000005 : Int32)) dX4_readKey_49 tw_665 ?_
  refine V_icmp_ne (Y := m_X4_readKey) (pc := 51) (tgt := 56) dX4_readKey_51 (by decide +kernel) hf (fun hf => ?_) (fun hf => ?_)
  · refine V_aload_n (Y := m_X4_readKey) (pc := 56) 0 dX4_readKey_56 rfl ?_
    obtain ⟨q1, hq1, hf⟩ := g_bind hf
    refine V_cVv (Y := m_X4_readKey) (pc := 57) (As := []) yf_X4_step kX4 sC_1 (by decide +kernel) (ok_X4_step  (mset M 1 6 s0) _  hq1) tw_589 tw_0 tw_587 rfl rfl (Nat.le_of_ble_eq_true rfl) dX4_readKey_57 ?_
    refine V_iconst (Y := m_X4_readKey) (pc := 60) (x := (1 : Int32)) dX4_readKey_60 (by decide +kernel) ?_
    obtain rfl := Option.some.inj hf
    exact V_zret (Y := m_X4_readKey) z01_1 rfl dX4_readKey_61
  · refine V_iconst (Y := m_X4_readKey) (pc := 54) (x := (0 : Int32)) dX4_readKey_54 (by decide +kernel) ?_
    obtain rfl := Option.some.inj hf
    exact V_zret (Y := m_X4_readKey) z01_0 rfl dX4_readKey_55
def f_X4_readKey_b0   (M : Mem) : Option (Int32 × Mem) :=
  (f_X4_isSpelt 0 M).bind fun q1 =>
  if q1.1 = 0 then
    (f_X4_isSpelt 1 q1.2).bind fun q2 =>
    if q2.1 = 0 then
      (f_X4_isSpelt 2 q2.2).bind fun q3 =>
      if q3.1 = 0 then
        f_X4_readKey_b42  (-1000000005 : Int32) q3.2
      else
        f_X4_readKey_b42  (2 : Int32) q3.2
    else
      f_X4_readKey_b42  (1 : Int32) q2.2
  else
    f_X4_readKey_b42  (0 : Int32) q1.2
set_option maxRecDepth 20000 in
set_option maxHeartbeats 4000000 in
theorem ok_X4_readKey_b0 {l : Launch} {g : Gam} {b : Nat}    (M : Mem) (z : Int32 × Mem)  (hf : f_X4_readKey_b0  M = some z) : V l g (wC b) m_X4_readKey 0 [(0, .ref (b + 1))] [] M (some (.int z.1)) z.2 := by
  unfold f_X4_readKey_b0 at hf
  refine V_aload_n (Y := m_X4_readKey) (pc := 0) 0 dX4_readKey_0 rfl ?_
  refine V_aload_n (Y := m_X4_readKey) (pc := 1) 0 dX4_readKey_1 rfl ?_
  refine V_ldcS (Y := m_X4_readKey) (pc := 2) (i := 0) rfl rfl dX4_readKey_2 ?_
  obtain ⟨q1, hq1, hf⟩ := g_bind hf
  refine V_cVi (Y := m_X4_readKey) (pc := 4) (As := [.ref (g.2.2.2.2.2.1 0)]) yf_X4_isSpelt kX4 sC_1 (by decide +kernel) (ok_X4_isSpelt 0 M _  hq1) tw_613 tw_4 tw_611 rfl rfl (Nat.le_of_ble_eq_true rfl) dX4_readKey_4 ?_
  refine V_if_eq (Y := m_X4_readKey) (pc := 7) (tgt := 14) dX4_readKey_7 (by decide +kernel) hf (fun hf => ?_) (fun hf => ?_)
  · refine V_aload_n (Y := m_X4_readKey) (pc := 14) 0 dX4_readKey_14 rfl ?_
    refine V_ldcS (Y := m_X4_readKey) (pc := 15) (i := 1) rfl rfl dX4_readKey_15 ?_
    obtain ⟨q2, hq2, hf⟩ := g_bind hf
    refine V_cVi (Y := m_X4_readKey) (pc := 17) (As := [.ref (g.2.2.2.2.2.1 1)]) yf_X4_isSpelt kX4 sC_1 (by decide +kernel) (ok_X4_isSpelt 1 q1.2 _  hq2) tw_613 tw_4 tw_611 rfl rfl (Nat.le_of_ble_eq_true rfl) dX4_readKey_17 ?_
    refine V_if_eq (Y := m_X4_readKey) (pc := 20) (tgt := 27) dX4_readKey_20 (by decide +kernel) hf (fun hf => ?_) (fun hf => ?_)
    · refine V_aload_n (Y := m_X4_readKey) (pc := 27) 0 dX4_readKey_27 rfl ?_
      refine V_ldcS (Y := m_X4_readKey) (pc := 28) (i := 2) rfl rfl dX4_readKey_28 ?_
      obtain ⟨q3, hq3, hf⟩ := g_bind hf
      refine V_cVi (Y := m_X4_readKey) (pc := 30) (As := [.ref (g.2.2.2.2.2.1 2)]) yf_X4_isSpelt kX4 sC_1 (by decide +kernel) (ok_X4_isSpelt 2 q2.2 _  hq3) tw_613 tw_4 tw_611 rfl rfl (Nat.le_of_ble_eq_true rfl) dX4_readKey_30 ?_
      refine V_if_eq (Y := m_X4_readKey) (pc := 33) (tgt := 40) dX4_readKey_33 (by decide +kernel) hf (fun hf => ?_) (fun hf => ?_)
      · refine V_ldc (Y := m_X4_readKey) (pc := 40) (x := (-1000000005 : Int32)) dX4_readKey_40 tw_665 ?_
        exact V_sub [0] rfl (ok_X4_readKey_b42  (-1000000005 : Int32) q3.2 z  hf)
      · refine V_iconst (Y := m_X4_readKey) (pc := 36) (x := (2 : Int32)) dX4_readKey_36 (by decide +kernel) ?_
        refine V_goto (Y := m_X4_readKey) (pc := 37) (tgt := 42) dX4_readKey_37 (by decide +kernel) ?_
        exact V_sub [0] rfl (ok_X4_readKey_b42  (2 : Int32) q3.2 z  hf)
    · refine V_iconst (Y := m_X4_readKey) (pc := 23) (x := (1 : Int32)) dX4_readKey_23 (by decide +kernel) ?_
      refine V_goto (Y := m_X4_readKey) (pc := 24) (tgt := 42) dX4_readKey_24 (by decide +kernel) ?_
      exact V_sub [0] rfl (ok_X4_readKey_b42  (1 : Int32) q2.2 z  hf)
  · refine V_iconst (Y := m_X4_readKey) (pc := 10) (x := (0 : Int32)) dX4_readKey_10 (by decide +kernel) ?_
    refine V_goto (Y := m_X4_readKey) (pc := 11) (tgt := 42) dX4_readKey_11 (by decide +kernel) ?_
    exact V_sub [0] rfl (ok_X4_readKey_b42  (0 : Int32) q1.2 z  hf)
def f_X4_readKey  (M : Mem) : Option (Int32 × Mem) := f_X4_readKey_b0  M
set_option maxRecDepth 20000 in
set_option maxHeartbeats 4000000 in
theorem ok_X4_readKey {l : Launch} {g : Gam} {b : Nat} : ∀  (M : Mem) (z : Int32 × Mem), f_X4_readKey  M = some z → Cn l g (wC b) m_X4_readKey [.ref (b + 1)] M (some (.int z.1)) z.2 := fun  M z  hf => Cn_of (by decide +kernel) (Nat.le_of_ble_eq_true rfl) (V_sub [0] rfl (ok_X4_readKey_b0  M z  hf))

abbrev m_X4_readVoyage : Mth := (yX4_readVoyage, cX4_readVoyage, 1, some .boolean, 5)
theorem yf_X4_readVoyage : YF m_X4_readVoyage 0 := ⟨tw_669, tw_66, by decide +kernel, by decide +kernel⟩
def f_X4_readVoyage_b0   (M : Mem) : Option (Int32 × Mem) :=
  if (M 1 4) = (1 : Int32) then
    if (M 1 5) < (3 : Int32) then
      (f_X4_step  (mset M 1 7 (M 1 5))).bind fun q1 =>
      some ((1 : Int32), q1.2)
    else
      some ((0 : Int32), M)
  else
    some ((0 : Int32), M)
set_option maxRecDepth 20000 in
set_option maxHeartbeats 4000000 in
theorem ok_X4_readVoyage_b0 {l : Launch} {g : Gam} {b : Nat}    (M : Mem) (z : Int32 × Mem)  (hf : f_X4_readVoyage_b0  M = some z) : V l g (wC b) m_X4_readVoyage 0 [(0, .ref (b + 1))] [] M (some (.int z.1)) z.2 := by
  unfold f_X4_readVoyage_b0 at hf
  refine V_aload_n (Y := m_X4_readVoyage) (pc := 0) 0 dX4_readVoyage_0 rfl ?_
  refine V_gi (Y := m_X4_readVoyage) (pc := 1) 4 kX4 sC_1 (by decide +kernel) rfl tw_103 dX4_readVoyage_1 ?_
  refine V_iconst (Y := m_X4_readVoyage) (pc := 4) (x := (1 : Int32)) dX4_readVoyage_4 (by decide +kernel) ?_
  refine V_icmp_ne (Y := m_X4_readVoyage) (pc := 5) (tgt := 16) dX4_readVoyage_5 (by decide +kernel) hf (fun hf => ?_) (fun hf => ?_)
  · refine V_iconst (Y := m_X4_readVoyage) (pc := 16) (x := (0 : Int32)) dX4_readVoyage_16 (by decide +kernel) ?_
    obtain rfl := Option.some.inj hf
    exact V_zret (Y := m_X4_readVoyage) z01_0 rfl dX4_readVoyage_17
  · refine V_aload_n (Y := m_X4_readVoyage) (pc := 8) 0 dX4_readVoyage_8 rfl ?_
    refine V_gi (Y := m_X4_readVoyage) (pc := 9) 5 kX4 sC_1 (by decide +kernel) rfl tw_104 dX4_readVoyage_9 ?_
    refine V_iconst (Y := m_X4_readVoyage) (pc := 12) (x := (3 : Int32)) dX4_readVoyage_12 (by decide +kernel) ?_
    refine V_icmp_lt (Y := m_X4_readVoyage) (pc := 13) (tgt := 18) dX4_readVoyage_13 (by decide +kernel) hf (fun hf => ?_) (fun hf => ?_)
    · refine V_aload_n (Y := m_X4_readVoyage) (pc := 18) 0 dX4_readVoyage_18 rfl ?_
      refine V_aload_n (Y := m_X4_readVoyage) (pc := 19) 0 dX4_readVoyage_19 rfl ?_
      refine V_gi (Y := m_X4_readVoyage) (pc := 20) 5 kX4 sC_1 (by decide +kernel) rfl tw_104 dX4_readVoyage_20 ?_
      refine V_pi (Y := m_X4_readVoyage) (pc := 23) 7 kX4 sC_1 (by decide +kernel) rfl rfl rfl tw_108 dX4_readVoyage_23 ?_
      refine V_aload_n (Y := m_X4_readVoyage) (pc := 26) 0 dX4_readVoyage_26 rfl ?_
      obtain ⟨q1, hq1, hf⟩ := g_bind hf
      refine V_cVv (Y := m_X4_readVoyage) (pc := 27) (As := []) yf_X4_step kX4 sC_1 (by decide +kernel) (ok_X4_step  (mset M 1 7 (M 1 5)) _  hq1) tw_589 tw_0 tw_587 rfl rfl (Nat.le_of_ble_eq_true rfl) dX4_readVoyage_27 ?_
      refine V_iconst (Y := m_X4_readVoyage) (pc := 30) (x := (1 : Int32)) dX4_readVoyage_30 (by decide +kernel) ?_
      obtain rfl := Option.some.inj hf
      exact V_zret (Y := m_X4_readVoyage) z01_1 rfl dX4_readVoyage_31
    · refine V_iconst (Y := m_X4_readVoyage) (pc := 16) (x := (0 : Int32)) dX4_readVoyage_16 (by decide +kernel) ?_
      obtain rfl := Option.some.inj hf
      exact V_zret (Y := m_X4_readVoyage) z01_0 rfl dX4_readVoyage_17
def f_X4_readVoyage  (M : Mem) : Option (Int32 × Mem) := f_X4_readVoyage_b0  M
set_option maxRecDepth 20000 in
set_option maxHeartbeats 4000000 in
theorem ok_X4_readVoyage {l : Launch} {g : Gam} {b : Nat} : ∀  (M : Mem) (z : Int32 × Mem), f_X4_readVoyage  M = some z → Cn l g (wC b) m_X4_readVoyage [.ref (b + 1)] M (some (.int z.1)) z.2 := fun  M z  hf => Cn_of (by decide +kernel) (Nat.le_of_ble_eq_true rfl) (V_sub [0] rfl (ok_X4_readVoyage_b0  M z  hf))

abbrev m_X4_emit : Mth := (yX4_emit, cX4_emit, 2, none, 1)
theorem yf_X4_emit : YF m_X4_emit 1 := ⟨tw_685, tw_66, by decide +kernel, by decide +kernel⟩
def f_X4_emit_b0  (x1 : Int32) (M : Mem) : Option (Int32 × Mem) :=
  if (96 : Int32) ≤ (M 1 9) then
    some (0, M)
  else
    if ixb (M 1 9) 96 = true then
    some (0, (mset (mset M 1 9 ((M 1 9) + (1 : Int32))) 3 (ix (M 1 9)) x1))
    else none
set_option maxRecDepth 20000 in
set_option maxHeartbeats 4000000 in
theorem ok_X4_emit_b0 {l : Launch} {g : Gam} {b : Nat}   (x1 : Int32) (M : Mem) (z : Int32 × Mem)  (hf : f_X4_emit_b0 x1 M = some z) : V l g (wC b) m_X4_emit 0 [(0, .ref (b + 1)), (1, .int x1)] [] M none z.2 := by
  unfold f_X4_emit_b0 at hf
  refine V_aload_n (Y := m_X4_emit) (pc := 0) 0 dX4_emit_0 rfl ?_
  refine V_gi (Y := m_X4_emit) (pc := 1) 9 kX4 sC_1 (by decide +kernel) rfl tw_112 dX4_emit_1 ?_
  refine V_bipush (Y := m_X4_emit) (pc := 4) (x := (96 : Int32)) dX4_emit_4 (by decide +kernel) ?_
  refine V_icmp_ge (Y := m_X4_emit) (pc := 6) (tgt := 26) dX4_emit_6 (by decide +kernel) hf (fun hf => ?_) (fun hf => ?_)
  · obtain rfl := Option.some.inj hf
    exact V_vret (Y := m_X4_emit) rfl dX4_emit_26
  · refine V_aload_n (Y := m_X4_emit) (pc := 9) 0 dX4_emit_9 rfl ?_
    refine V_grL (Y := m_X4_emit) (pc := 10) (x := 3) 12 kX4 sC_1 (by decide +kernel) rfl rfl tw_115 dX4_emit_10 ?_
    refine V_aload_n (Y := m_X4_emit) (pc := 13) 0 dX4_emit_13 rfl ?_
    refine V_dup (Y := m_X4_emit) (pc := 14) dX4_emit_14 rfl ?_
    refine V_gi (Y := m_X4_emit) (pc := 15) 9 kX4 sC_1 (by decide +kernel) rfl tw_112 dX4_emit_15 ?_
    refine V_dup_x1 (Y := m_X4_emit) (pc := 18) dX4_emit_18 rfl rfl ?_
    refine V_iconst (Y := m_X4_emit) (pc := 19) (x := (1 : Int32)) dX4_emit_19 (by decide +kernel) ?_
    refine V_iadd (Y := m_X4_emit) (pc := 20) dX4_emit_20 ?_
    refine V_pi (Y := m_X4_emit) (pc := 21) 9 kX4 sC_1 (by decide +kernel) rfl rfl rfl tw_112 dX4_emit_21 ?_
    refine V_iload_n (Y := m_X4_emit) (pc := 24) 1 dX4_emit_24 rfl ?_
    obtain ⟨hi1, hf⟩ := g_if hf
    refine V_iast (Y := m_X4_emit) (pc := 25) sC_3 hi1 dX4_emit_25 ?_
    obtain rfl := Option.some.inj hf
    exact V_vret (Y := m_X4_emit) rfl dX4_emit_26
def f_X4_emit (x1 : Int32) (M : Mem) : Option (Int32 × Mem) := f_X4_emit_b0 x1 M
set_option maxRecDepth 20000 in
set_option maxHeartbeats 4000000 in
theorem ok_X4_emit {l : Launch} {g : Gam} {b : Nat} : ∀ (x1 : Int32) (M : Mem) (z : Int32 × Mem), f_X4_emit x1 M = some z → Cn l g (wC b) m_X4_emit [.ref (b + 1), .int x1] M none z.2 := fun x1 M z  hf => Cn_of (by decide +kernel) (Nat.le_of_ble_eq_true rfl) (V_sub [0, 1] rfl (ok_X4_emit_b0 x1 M z  hf))

abbrev m_X4_levelOf : Mth := (yX4_levelOf, cX4_levelOf, 1, some .int, 1)
theorem yf_X4_levelOf : YF m_X4_levelOf 1 := ⟨tw_695, tw_66, by decide +kernel, by decide +kernel⟩
def f_X4_levelOf_b0  (x0 : Int32) (M : Mem) : Option (Int32 × Mem) :=
  if x0 = (38 : Int32) then
    some ((1 : Int32), M)
  else
  if x0 = (42 : Int32) then
    some ((4 : Int32), M)
  else
  if x0 = (43 : Int32) then
    some ((3 : Int32), M)
  else
  if x0 = (45 : Int32) then
    some ((3 : Int32), M)
  else
  if x0 = (47 : Int32) then
    some ((4 : Int32), M)
  else
  if x0 = (60 : Int32) then
    some ((2 : Int32), M)
  else
  if x0 = (61 : Int32) then
    some ((2 : Int32), M)
  else
  if x0 = (62 : Int32) then
    some ((2 : Int32), M)
  else
  if x0 = (124 : Int32) then
    some ((0 : Int32), M)
  else
  some ((-1000000005 : Int32), M)
set_option maxRecDepth 20000 in
set_option maxHeartbeats 4000000 in
theorem ok_X4_levelOf_b0 {l : Launch} {g : Gam} {b : Nat}   (x0 : Int32) (M : Mem) (z : Int32 × Mem)  (hf : f_X4_levelOf_b0 x0 M = some z) : V l g (wC b) m_X4_levelOf 0 [(0, .int x0)] [] M (some (.int z.1)) z.2 := by
  unfold f_X4_levelOf_b0 at hf
  refine V_iload_n (Y := m_X4_levelOf) (pc := 0) 0 dX4_levelOf_0 rfl ?_
  by_cases hc1 : x0 = (38 : Int32)
  · rw [if_pos hc1] at hf
    refine V_lsw (Y := m_X4_levelOf) (pc := 1) (tgt := 86) (38 : Int32) hc1 dX4_levelOf_1 (by decide +kernel) (by decide +kernel) ?_
    refine V_iconst (Y := m_X4_levelOf) (pc := 86) (x := (1 : Int32)) dX4_levelOf_86 (by decide +kernel) ?_
    obtain rfl := Option.some.inj hf
    exact V_iret (Y := m_X4_levelOf) rfl dX4_levelOf_87
  rw [if_neg hc1] at hf
  by_cases hc2 : x0 = (42 : Int32)
  · rw [if_pos hc2] at hf
    refine V_lsw (Y := m_X4_levelOf) (pc := 1) (tgt := 92) (42 : Int32) hc2 dX4_levelOf_1 (by decide +kernel) (by decide +kernel) ?_
    refine V_iconst (Y := m_X4_levelOf) (pc := 92) (x := (4 : Int32)) dX4_levelOf_92 (by decide +kernel) ?_
    obtain rfl := Option.some.inj hf
    exact V_iret (Y := m_X4_levelOf) rfl dX4_levelOf_93
  rw [if_neg hc2] at hf
  by_cases hc3 : x0 = (43 : Int32)
  · rw [if_pos hc3] at hf
    refine V_lsw (Y := m_X4_levelOf) (pc := 1) (tgt := 90) (43 : Int32) hc3 dX4_levelOf_1 (by decide +kernel) (by decide +kernel) ?_
    refine V_iconst (Y := m_X4_levelOf) (pc := 90) (x := (3 : Int32)) dX4_levelOf_90 (by decide +kernel) ?_
    obtain rfl := Option.some.inj hf
    exact V_iret (Y := m_X4_levelOf) rfl dX4_levelOf_91
  rw [if_neg hc3] at hf
  by_cases hc4 : x0 = (45 : Int32)
  · rw [if_pos hc4] at hf
    refine V_lsw (Y := m_X4_levelOf) (pc := 1) (tgt := 90) (45 : Int32) hc4 dX4_levelOf_1 (by decide +kernel) (by decide +kernel) ?_
    refine V_iconst (Y := m_X4_levelOf) (pc := 90) (x := (3 : Int32)) dX4_levelOf_90 (by decide +kernel) ?_
    obtain rfl := Option.some.inj hf
    exact V_iret (Y := m_X4_levelOf) rfl dX4_levelOf_91
  rw [if_neg hc4] at hf
  by_cases hc5 : x0 = (47 : Int32)
  · rw [if_pos hc5] at hf
    refine V_lsw (Y := m_X4_levelOf) (pc := 1) (tgt := 92) (47 : Int32) hc5 dX4_levelOf_1 (by decide +kernel) (by decide +kernel) ?_
    refine V_iconst (Y := m_X4_levelOf) (pc := 92) (x := (4 : Int32)) dX4_levelOf_92 (by decide +kernel) ?_
    obtain rfl := Option.some.inj hf
    exact V_iret (Y := m_X4_levelOf) rfl dX4_levelOf_93
  rw [if_neg hc5] at hf
  by_cases hc6 : x0 = (60 : Int32)
  · rw [if_pos hc6] at hf
    refine V_lsw (Y := m_X4_levelOf) (pc := 1) (tgt := 88) (60 : Int32) hc6 dX4_levelOf_1 (by decide +kernel) (by decide +kernel) ?_
    refine V_iconst (Y := m_X4_levelOf) (pc := 88) (x := (2 : Int32)) dX4_levelOf_88 (by decide +kernel) ?_
    obtain rfl := Option.some.inj hf
    exact V_iret (Y := m_X4_levelOf) rfl dX4_levelOf_89
  rw [if_neg hc6] at hf
  by_cases hc7 : x0 = (61 : Int32)
  · rw [if_pos hc7] at hf
    refine V_lsw (Y := m_X4_levelOf) (pc := 1) (tgt := 88) (61 : Int32) hc7 dX4_levelOf_1 (by decide +kernel) (by decide +kernel) ?_
    refine V_iconst (Y := m_X4_levelOf) (pc := 88) (x := (2 : Int32)) dX4_levelOf_88 (by decide +kernel) ?_
    obtain rfl := Option.some.inj hf
    exact V_iret (Y := m_X4_levelOf) rfl dX4_levelOf_89
  rw [if_neg hc7] at hf
  by_cases hc8 : x0 = (62 : Int32)
  · rw [if_pos hc8] at hf
    refine V_lsw (Y := m_X4_levelOf) (pc := 1) (tgt := 88) (62 : Int32) hc8 dX4_levelOf_1 (by decide +kernel) (by decide +kernel) ?_
    refine V_iconst (Y := m_X4_levelOf) (pc := 88) (x := (2 : Int32)) dX4_levelOf_88 (by decide +kernel) ?_
    obtain rfl := Option.some.inj hf
    exact V_iret (Y := m_X4_levelOf) rfl dX4_levelOf_89
  rw [if_neg hc8] at hf
  by_cases hc9 : x0 = (124 : Int32)
  · rw [if_pos hc9] at hf
    refine V_lsw (Y := m_X4_levelOf) (pc := 1) (tgt := 84) (124 : Int32) hc9 dX4_levelOf_1 (by decide +kernel) (by decide +kernel) ?_
    refine V_iconst (Y := m_X4_levelOf) (pc := 84) (x := (0 : Int32)) dX4_levelOf_84 (by decide +kernel) ?_
    obtain rfl := Option.some.inj hf
    exact V_iret (Y := m_X4_levelOf) rfl dX4_levelOf_85
  rw [if_neg hc9] at hf
  refine V_lswO (Y := m_X4_levelOf) (pc := 1) (tgt := 94) [(38 : Int32), (42 : Int32), (43 : Int32), (45 : Int32), (47 : Int32), (60 : Int32), (61 : Int32), (62 : Int32), (124 : Int32)] (List.forall_mem_cons.mpr ⟨hc1, (List.forall_mem_cons.mpr ⟨hc2, (List.forall_mem_cons.mpr ⟨hc3, (List.forall_mem_cons.mpr ⟨hc4, (List.forall_mem_cons.mpr ⟨hc5, (List.forall_mem_cons.mpr ⟨hc6, (List.forall_mem_cons.mpr ⟨hc7, (List.forall_mem_cons.mpr ⟨hc8, (List.forall_mem_cons.mpr ⟨hc9, (fun _ h => absurd h List.not_mem_nil)⟩)⟩)⟩)⟩)⟩)⟩)⟩)⟩)⟩) dX4_levelOf_1 (by decide +kernel) (by decide +kernel) (by decide +kernel) ?_
  refine V_ldc (Y := m_X4_levelOf) (pc := 94) (x := (-1000000005 : Int32)) dX4_levelOf_94 tw_665 ?_
  obtain rfl := Option.some.inj hf
  exact V_iret (Y := m_X4_levelOf) rfl dX4_levelOf_96
def f_X4_levelOf (x0 : Int32) (M : Mem) : Option (Int32 × Mem) := f_X4_levelOf_b0 x0 M
set_option maxRecDepth 20000 in
set_option maxHeartbeats 4000000 in
theorem ok_X4_levelOf {l : Launch} {g : Gam} {b : Nat} : ∀ (x0 : Int32) (M : Mem) (z : Int32 × Mem), f_X4_levelOf x0 M = some z → Cn l g (wC b) m_X4_levelOf [.int x0] M (some (.int z.1)) z.2 := fun x0 M z  hf => Cn_of (by decide +kernel) (Nat.le_of_ble_eq_true rfl) (V_sub [0] rfl (ok_X4_levelOf_b0 x0 M z  hf))

abbrev m_X4_readBrackets (n : Nat) : Mth := (yX4_readBrackets, cX4_readBrackets, 2, some .boolean, 7 + n)
theorem yf_X4_readBrackets (n : Nat) : YF (m_X4_readBrackets n) 0 := ⟨tw_689, tw_66, (show yX4_readBrackets.cls ≠ "java/lang/invoke/MethodHandle" ∧ yX4_readBrackets.cls ≠ "java/lang/invoke/VarHandle" ∧ (parseMethodDescriptor yX4_readBrackets.desc).map (fun d => d.parameters.length) = some 0 by decide +kernel), Nat.le_of_ble_eq_true rfl⟩
abbrev m_X4_readLevel (n : Nat) : Mth := (yX4_readLevel, cX4_readLevel, 6, some .boolean, 7 + n)
theorem yf_X4_readLevel (n : Nat) : YF (m_X4_readLevel n) 1 := ⟨tw_673, tw_66, (show yX4_readLevel.cls ≠ "java/lang/invoke/MethodHandle" ∧ yX4_readLevel.cls ≠ "java/lang/invoke/VarHandle" ∧ (parseMethodDescriptor yX4_readLevel.desc).map (fun d => d.parameters.length) = some 1 by decide +kernel), Nat.le_of_ble_eq_true rfl⟩
abbrev m_X4_readNot (n : Nat) : Mth := (yX4_readNot, cX4_readNot, 2, some .boolean, 7 + n)
theorem yf_X4_readNot (n : Nat) : YF (m_X4_readNot n) 0 := ⟨tw_681, tw_66, (show yX4_readNot.cls ≠ "java/lang/invoke/MethodHandle" ∧ yX4_readNot.cls ≠ "java/lang/invoke/VarHandle" ∧ (parseMethodDescriptor yX4_readNot.desc).map (fun d => d.parameters.length) = some 0 by decide +kernel), Nat.le_of_ble_eq_true rfl⟩
abbrev m_X4_readPiece (n : Nat) : Mth := (yX4_readPiece, cX4_readPiece, 1, some .boolean, 7 + n)
theorem yf_X4_readPiece (n : Nat) : YF (m_X4_readPiece n) 0 := ⟨tw_677, tw_66, (show yX4_readPiece.cls ≠ "java/lang/invoke/MethodHandle" ∧ yX4_readPiece.cls ≠ "java/lang/invoke/VarHandle" ∧ (parseMethodDescriptor yX4_readPiece.desc).map (fun d => d.parameters.length) = some 0 by decide +kernel), Nat.le_of_ble_eq_true rfl⟩
def f_X4_readBrackets_b55 (rc_X4_readLevel : Int32 → Mem → Option (Int32 × Mem))  (s0 : Int32) (M : Mem) : Option (Int32 × Mem) :=
  if s0 = 0 then
    if z01 s0 = true then some (s0, (mset M 1 10 ((M 1 10) - (1 : Int32)))) else none
  else
    (f_X4_step  (mset M 1 10 ((M 1 10) - (1 : Int32)))).bind fun q2 =>
    if z01 s0 = true then some (s0, q2.2) else none
set_option maxRecDepth 20000 in
set_option maxHeartbeats 4000000 in
theorem ok_X4_readBrackets_b55 {l : Launch} {g : Gam} {b : Nat} (rc_X4_readLevel : Int32 → Mem → Option (Int32 × Mem)) {dn : Nat} (hrc_X4_readLevel : ∀ (x1 : Int32) (M : Mem) (z : Int32 × Mem), rc_X4_readLevel x1 M = some z → Cn l g (wC b) (m_X4_readLevel dn) [.ref (b + 1), .int x1] M (some (.int z.1)) z.2)   (s0 : Int32) (M : Mem) (z : Int32 × Mem)  (hf : f_X4_readBrackets_b55 rc_X4_readLevel s0 M = some z) : V l g (wC b) (m_X4_readBrackets (dn + 1)) 55 [(0, .ref (b + 1))] [.int s0] M (some (.int z.1)) z.2 := by
  unfold f_X4_readBrackets_b55 at hf
  refine V_istore_n (Y := (m_X4_readBrackets (dn + 1))) (pc := 55) [(1, .int s0), (0, .ref (b + 1))] dX4_readBrackets_55 (Nat.le_of_ble_eq_true rfl) rfl ?_
  refine V_aload_n (Y := (m_X4_readBrackets (dn + 1))) (pc := 56) 1 dX4_readBrackets_56 rfl ?_
  refine V_dup (Y := (m_X4_readBrackets (dn + 1))) (pc := 57) dX4_readBrackets_57 rfl ?_
  refine V_gi (Y := (m_X4_readBrackets (dn + 1))) (pc := 58) 10 kX4 sC_1 (by decide +kernel) rfl tw_113 dX4_readBrackets_58 ?_
  refine V_iconst (Y := (m_X4_readBrackets (dn + 1))) (pc := 61) (x := (1 : Int32)) dX4_readBrackets_61 (by decide +kernel) ?_
  refine V_isub (Y := (m_X4_readBrackets (dn + 1))) (pc := 62) dX4_readBrackets_62 ?_
  refine V_pi (Y := (m_X4_readBrackets (dn + 1))) (pc := 63) 10 kX4 sC_1 (by decide +kernel) rfl rfl rfl tw_113 dX4_readBrackets_63 ?_
  refine V_iload_n (Y := (m_X4_readBrackets (dn + 1))) (pc := 66) 0 dX4_readBrackets_66 rfl ?_
  refine V_if_eq (Y := (m_X4_readBrackets (dn + 1))) (pc := 67) (tgt := 74) dX4_readBrackets_67 (by decide +kernel) hf (fun hf => ?_) (fun hf => ?_)
  · refine V_iload_n (Y := (m_X4_readBrackets (dn + 1))) (pc := 74) 0 dX4_readBrackets_74 rfl ?_
    obtain ⟨hz1, hf⟩ := g_if hf
    obtain rfl := Option.some.inj hf
    exact V_zret (Y := (m_X4_readBrackets (dn + 1))) hz1 rfl dX4_readBrackets_75
  · refine V_aload_n (Y := (m_X4_readBrackets (dn + 1))) (pc := 70) 1 dX4_readBrackets_70 rfl ?_
    obtain ⟨q2, hq2, hf⟩ := g_bind hf
    refine V_cVv (Y := (m_X4_readBrackets (dn + 1))) (pc := 71) (As := []) yf_X4_step kX4 sC_1 (by show 4 < 7 + (dn + 1); omega) (ok_X4_step  (mset M 1 10 ((M 1 10) - (1 : Int32))) _  hq2) tw_589 tw_0 tw_587 rfl rfl (Nat.le_of_ble_eq_true rfl) dX4_readBrackets_71 ?_
    refine V_iload_n (Y := (m_X4_readBrackets (dn + 1))) (pc := 74) 0 dX4_readBrackets_74 rfl ?_
    obtain ⟨hz3, hf⟩ := g_if hf
    obtain rfl := Option.some.inj hf
    exact V_zret (Y := (m_X4_readBrackets (dn + 1))) hz3 rfl dX4_readBrackets_75
def f_X4_readBrackets_b54 (rc_X4_readLevel : Int32 → Mem → Option (Int32 × Mem))   (M : Mem) : Option (Int32 × Mem) :=
  f_X4_readBrackets_b55 rc_X4_readLevel (0 : Int32) M
set_option maxRecDepth 20000 in
set_option maxHeartbeats 4000000 in
theorem ok_X4_readBrackets_b54 {l : Launch} {g : Gam} {b : Nat} (rc_X4_readLevel : Int32 → Mem → Option (Int32 × Mem)) {dn : Nat} (hrc_X4_readLevel : ∀ (x1 : Int32) (M : Mem) (z : Int32 × Mem), rc_X4_readLevel x1 M = some z → Cn l g (wC b) (m_X4_readLevel dn) [.ref (b + 1), .int x1] M (some (.int z.1)) z.2)    (M : Mem) (z : Int32 × Mem)  (hf : f_X4_readBrackets_b54 rc_X4_readLevel M = some z) : V l g (wC b) (m_X4_readBrackets (dn + 1)) 54 [(0, .ref (b + 1))] [] M (some (.int z.1)) z.2 := by
  unfold f_X4_readBrackets_b54 at hf
  refine V_iconst (Y := (m_X4_readBrackets (dn + 1))) (pc := 54) (x := (0 : Int32)) dX4_readBrackets_54 (by decide +kernel) ?_
  exact V_sub [0] rfl (ok_X4_readBrackets_b55 rc_X4_readLevel hrc_X4_readLevel (0 : Int32) M z  hf)
def f_X4_readBrackets_b0 (rc_X4_readLevel : Int32 → Mem → Option (Int32 × Mem))   (M : Mem) : Option (Int32 × Mem) :=
  if (M 1 10) < (8 : Int32) then
    (f_X4_step  (mset M 1 10 ((M 1 10) + (1 : Int32)))).bind fun q1 =>
    (rc_X4_readLevel (0 : Int32) q1.2).bind fun q2 =>
    if q2.1 = 0 then
      f_X4_readBrackets_b54 rc_X4_readLevel  q2.2
    else
      if (q2.2 1 4) = (3 : Int32) then
        if (q2.2 1 5) = (41 : Int32) then
          f_X4_readBrackets_b55 rc_X4_readLevel (1 : Int32) q2.2
        else
          f_X4_readBrackets_b54 rc_X4_readLevel  q2.2
      else
        f_X4_readBrackets_b54 rc_X4_readLevel  q2.2
  else
    some ((0 : Int32), M)
set_option maxRecDepth 20000 in
set_option maxHeartbeats 4000000 in
theorem ok_X4_readBrackets_b0 {l : Launch} {g : Gam} {b : Nat} (rc_X4_readLevel : Int32 → Mem → Option (Int32 × Mem)) {dn : Nat} (hrc_X4_readLevel : ∀ (x1 : Int32) (M : Mem) (z : Int32 × Mem), rc_X4_readLevel x1 M = some z → Cn l g (wC b) (m_X4_readLevel dn) [.ref (b + 1), .int x1] M (some (.int z.1)) z.2)    (M : Mem) (z : Int32 × Mem)  (hf : f_X4_readBrackets_b0 rc_X4_readLevel M = some z) : V l g (wC b) (m_X4_readBrackets (dn + 1)) 0 [(0, .ref (b + 1))] [] M (some (.int z.1)) z.2 := by
  unfold f_X4_readBrackets_b0 at hf
  refine V_aload_n (Y := (m_X4_readBrackets (dn + 1))) (pc := 0) 0 dX4_readBrackets_0 rfl ?_
  refine V_gi (Y := (m_X4_readBrackets (dn + 1))) (pc := 1) 10 kX4 sC_1 (by decide +kernel) rfl tw_113 dX4_readBrackets_1 ?_
  refine V_bipush (Y := (m_X4_readBrackets (dn + 1))) (pc := 4) (x := (8 : Int32)) dX4_readBrackets_4 (by decide +kernel) ?_
  refine V_icmp_lt (Y := (m_X4_readBrackets (dn + 1))) (pc := 6) (tgt := 11) dX4_readBrackets_6 (by decide +kernel) hf (fun hf => ?_) (fun hf => ?_)
  · refine V_aload_n (Y := (m_X4_readBrackets (dn + 1))) (pc := 11) 0 dX4_readBrackets_11 rfl ?_
    refine V_dup (Y := (m_X4_readBrackets (dn + 1))) (pc := 12) dX4_readBrackets_12 rfl ?_
    refine V_gi (Y := (m_X4_readBrackets (dn + 1))) (pc := 13) 10 kX4 sC_1 (by decide +kernel) rfl tw_113 dX4_readBrackets_13 ?_
    refine V_iconst (Y := (m_X4_readBrackets (dn + 1))) (pc := 16) (x := (1 : Int32)) dX4_readBrackets_16 (by decide +kernel) ?_
    refine V_iadd (Y := (m_X4_readBrackets (dn + 1))) (pc := 17) dX4_readBrackets_17 ?_
    refine V_pi (Y := (m_X4_readBrackets (dn + 1))) (pc := 18) 10 kX4 sC_1 (by decide +kernel) rfl rfl rfl tw_113 dX4_readBrackets_18 ?_
    refine V_aload_n (Y := (m_X4_readBrackets (dn + 1))) (pc := 21) 0 dX4_readBrackets_21 rfl ?_
    obtain ⟨q1, hq1, hf⟩ := g_bind hf
    refine V_cVv (Y := (m_X4_readBrackets (dn + 1))) (pc := 22) (As := []) yf_X4_step kX4 sC_1 (by show 4 < 7 + (dn + 1); omega) (ok_X4_step  (mset M 1 10 ((M 1 10) + (1 : Int32))) _  hq1) tw_589 tw_0 tw_587 rfl rfl (Nat.le_of_ble_eq_true rfl) dX4_readBrackets_22 ?_
    refine V_aload_n (Y := (m_X4_readBrackets (dn + 1))) (pc := 25) 0 dX4_readBrackets_25 rfl ?_
    refine V_iconst (Y := (m_X4_readBrackets (dn + 1))) (pc := 26) (x := (0 : Int32)) dX4_readBrackets_26 (by decide +kernel) ?_
    obtain ⟨q2, hq2, hf⟩ := g_bind hf
    refine V_cVi (Y := (m_X4_readBrackets (dn + 1))) (pc := 27) (As := [.int (0 : Int32)]) (yf_X4_readLevel dn) kX4 sC_1 (by show 7 + dn < 7 + (dn + 1); omega) (hrc_X4_readLevel (0 : Int32) q1.2 _  hq2) tw_672 tw_6 tw_670 rfl rfl (Nat.le_of_ble_eq_true rfl) dX4_readBrackets_27 ?_
    refine V_if_eq (Y := (m_X4_readBrackets (dn + 1))) (pc := 30) (tgt := 54) dX4_readBrackets_30 (by decide +kernel) hf (fun hf => ?_) (fun hf => ?_)
    · exact V_sub [0] rfl (ok_X4_readBrackets_b54 rc_X4_readLevel hrc_X4_readLevel  q2.2 z  hf)
    · refine V_aload_n (Y := (m_X4_readBrackets (dn + 1))) (pc := 33) 0 dX4_readBrackets_33 rfl ?_
      refine V_gi (Y := (m_X4_readBrackets (dn + 1))) (pc := 34) 4 kX4 sC_1 (by decide +kernel) rfl tw_103 dX4_readBrackets_34 ?_
      refine V_iconst (Y := (m_X4_readBrackets (dn + 1))) (pc := 37) (x := (3 : Int32)) dX4_readBrackets_37 (by decide +kernel) ?_
      refine V_icmp_ne (Y := (m_X4_readBrackets (dn + 1))) (pc := 38) (tgt := 54) dX4_readBrackets_38 (by decide +kernel) hf (fun hf => ?_) (fun hf => ?_)
      · exact V_sub [0] rfl (ok_X4_readBrackets_b54 rc_X4_readLevel hrc_X4_readLevel  q2.2 z  hf)
      · refine V_aload_n (Y := (m_X4_readBrackets (dn + 1))) (pc := 41) 0 dX4_readBrackets_41 rfl ?_
        refine V_gi (Y := (m_X4_readBrackets (dn + 1))) (pc := 42) 5 kX4 sC_1 (by decide +kernel) rfl tw_104 dX4_readBrackets_42 ?_
        refine V_bipush (Y := (m_X4_readBrackets (dn + 1))) (pc := 45) (x := (41 : Int32)) dX4_readBrackets_45 (by decide +kernel) ?_
        refine V_icmp_ne (Y := (m_X4_readBrackets (dn + 1))) (pc := 47) (tgt := 54) dX4_readBrackets_47 (by decide +kernel) hf (fun hf => ?_) (fun hf => ?_)
        · exact V_sub [0] rfl (ok_X4_readBrackets_b54 rc_X4_readLevel hrc_X4_readLevel  q2.2 z  hf)
        · refine V_iconst (Y := (m_X4_readBrackets (dn + 1))) (pc := 50) (x := (1 : Int32)) dX4_readBrackets_50 (by decide +kernel) ?_
          refine V_goto (Y := (m_X4_readBrackets (dn + 1))) (pc := 51) (tgt := 55) dX4_readBrackets_51 (by decide +kernel) ?_
          exact V_sub [0] rfl (ok_X4_readBrackets_b55 rc_X4_readLevel hrc_X4_readLevel (1 : Int32) q2.2 z  hf)
  · refine V_iconst (Y := (m_X4_readBrackets (dn + 1))) (pc := 9) (x := (0 : Int32)) dX4_readBrackets_9 (by decide +kernel) ?_
    obtain rfl := Option.some.inj hf
    exact V_zret (Y := (m_X4_readBrackets (dn + 1))) z01_0 rfl dX4_readBrackets_10
def f_X4_readLevel_b33 (rc_X4_readLevel : Int32 → Mem → Option (Int32 × Mem)) (rc_X4_readPiece : Mem → Option (Int32 × Mem))  : Nat → Int32 → Int32 → Int32 → Int32 → Mem → Option (Int32 × Mem)
  | 0, _, _, _, _, _ => none
  | n + 1, x1, x2, x3, x4, M =>
    if x3 ≤ x4 then
      if z01 x2 = true then some (x2, M) else none
    else
      if x2 = 0 then
        if z01 x2 = true then some (x2, M) else none
      else
        if (M 1 4) = (3 : Int32) then
          (f_X4_levelOf (M 1 5) M).bind fun q4 =>
          if q4.1 = x1 then
            (f_X4_step  q4.2).bind fun q6 =>
            (rc_X4_readLevel (x1 + (1 : Int32)) q6.2).bind fun q7 =>
            (f_X4_emit (-(q4.2 1 5)) q7.2).bind fun q8 =>
            f_X4_readLevel_b33 rc_X4_readLevel rc_X4_readPiece n x1 q7.1 x3 (x4 + (1 : Int32)) q8.2
          else
            if z01 x2 = true then some (x2, q4.2) else none
        else
          if z01 x2 = true then some (x2, M) else none
set_option maxRecDepth 20000 in
set_option maxHeartbeats 4000000 in
theorem ok_X4_readLevel_b33 {l : Launch} {g : Gam} {b : Nat} (rc_X4_readLevel : Int32 → Mem → Option (Int32 × Mem)) (rc_X4_readPiece : Mem → Option (Int32 × Mem)) {dn : Nat} (hrc_X4_readLevel : ∀ (x1 : Int32) (M : Mem) (z : Int32 × Mem), rc_X4_readLevel x1 M = some z → Cn l g (wC b) (m_X4_readLevel dn) [.ref (b + 1), .int x1] M (some (.int z.1)) z.2) (hrc_X4_readPiece : ∀  (M : Mem) (z : Int32 × Mem), rc_X4_readPiece  M = some z → Cn l g (wC b) (m_X4_readPiece dn) [.ref (b + 1)] M (some (.int z.1)) z.2)   : ∀ (n : Nat) (x1 : Int32) (x2 : Int32) (x3 : Int32) (x4 : Int32) (M : Mem) (z : Int32 × Mem), f_X4_readLevel_b33 rc_X4_readLevel rc_X4_readPiece n x1 x2 x3 x4 M = some z → V l g (wC b) (m_X4_readLevel (dn + 1)) 33 [(0, .ref (b + 1)), (1, .int x1), (2, .int x2), (3, .int x3), (4, .int x4)] [] M (some (.int z.1)) z.2 := by
  intro n
  induction n with
  | zero =>
    intro x1 x2 x3 x4 M z  hf
    cases hf
  | succ n ih =>
    intro x1 x2 x3 x4 M z  hf
    rw [f_X4_readLevel_b33] at hf
    refine V_iload (Y := (m_X4_readLevel (dn + 1))) (pc := 33) 4 dX4_readLevel_33 rfl ?_
    refine V_iload_n (Y := (m_X4_readLevel (dn + 1))) (pc := 35) 3 dX4_readLevel_35 rfl ?_
    refine V_icmp_ge (Y := (m_X4_readLevel (dn + 1))) (pc := 36) (tgt := 93) dX4_readLevel_36 (by decide +kernel) hf (fun hf => ?_) (fun hf => ?_)
    · refine V_iload_n (Y := (m_X4_readLevel (dn + 1))) (pc := 93) 2 dX4_readLevel_93 rfl ?_
      obtain ⟨hz1, hf⟩ := g_if hf
      obtain rfl := Option.some.inj hf
      exact V_zret (Y := (m_X4_readLevel (dn + 1))) hz1 rfl dX4_readLevel_94
    · refine V_iload_n (Y := (m_X4_readLevel (dn + 1))) (pc := 39) 2 dX4_readLevel_39 rfl ?_
      refine V_if_eq (Y := (m_X4_readLevel (dn + 1))) (pc := 40) (tgt := 93) dX4_readLevel_40 (by decide +kernel) hf (fun hf => ?_) (fun hf => ?_)
      · refine V_iload_n (Y := (m_X4_readLevel (dn + 1))) (pc := 93) 2 dX4_readLevel_93 rfl ?_
        obtain ⟨hz2, hf⟩ := g_if hf
        obtain rfl := Option.some.inj hf
        exact V_zret (Y := (m_X4_readLevel (dn + 1))) hz2 rfl dX4_readLevel_94
      · refine V_aload_n (Y := (m_X4_readLevel (dn + 1))) (pc := 43) 0 dX4_readLevel_43 rfl ?_
        refine V_gi (Y := (m_X4_readLevel (dn + 1))) (pc := 44) 4 kX4 sC_1 (by decide +kernel) rfl tw_103 dX4_readLevel_44 ?_
        refine V_iconst (Y := (m_X4_readLevel (dn + 1))) (pc := 47) (x := (3 : Int32)) dX4_readLevel_47 (by decide +kernel) ?_
        refine V_icmp_ne (Y := (m_X4_readLevel (dn + 1))) (pc := 48) (tgt := 93) dX4_readLevel_48 (by decide +kernel) hf (fun hf => ?_) (fun hf => ?_)
        · refine V_iload_n (Y := (m_X4_readLevel (dn + 1))) (pc := 93) 2 dX4_readLevel_93 rfl ?_
          obtain ⟨hz3, hf⟩ := g_if hf
          obtain rfl := Option.some.inj hf
          exact V_zret (Y := (m_X4_readLevel (dn + 1))) hz3 rfl dX4_readLevel_94
        · refine V_aload_n (Y := (m_X4_readLevel (dn + 1))) (pc := 51) 0 dX4_readLevel_51 rfl ?_
          refine V_gi (Y := (m_X4_readLevel (dn + 1))) (pc := 52) 5 kX4 sC_1 (by decide +kernel) rfl tw_104 dX4_readLevel_52 ?_
          obtain ⟨q4, hq4, hf⟩ := g_bind hf
          refine V_cSi (Y := (m_X4_readLevel (dn + 1))) (pc := 55) (As := [.int (M 1 5)]) yf_X4_levelOf (by show 1 < 7 + (dn + 1); omega) (ok_X4_levelOf (M 1 5) M _  hq4) tw_694 tw_693 rfl rfl (Nat.le_of_ble_eq_true rfl) dX4_readLevel_55 ?_
          refine V_iload_n (Y := (m_X4_readLevel (dn + 1))) (pc := 58) 1 dX4_readLevel_58 rfl ?_
          refine V_icmp_ne (Y := (m_X4_readLevel (dn + 1))) (pc := 59) (tgt := 93) dX4_readLevel_59 (by decide +kernel) hf (fun hf => ?_) (fun hf => ?_)
          · refine V_iload_n (Y := (m_X4_readLevel (dn + 1))) (pc := 93) 2 dX4_readLevel_93 rfl ?_
            obtain ⟨hz5, hf⟩ := g_if hf
            obtain rfl := Option.some.inj hf
            exact V_zret (Y := (m_X4_readLevel (dn + 1))) hz5 rfl dX4_readLevel_94
          · refine V_aload_n (Y := (m_X4_readLevel (dn + 1))) (pc := 62) 0 dX4_readLevel_62 rfl ?_
            refine V_gi (Y := (m_X4_readLevel (dn + 1))) (pc := 63) 5 kX4 sC_1 (by decide +kernel) rfl tw_104 dX4_readLevel_63 ?_
            refine V_istore (Y := (m_X4_readLevel (dn + 1))) (pc := 66) [(5, .int (q4.2 1 5)), (0, .ref (b + 1)), (1, .int x1), (2, .int x2), (3, .int x3), (4, .int x4)] dX4_readLevel_66 (Nat.le_of_ble_eq_true rfl) rfl ?_
            refine V_aload_n (Y := (m_X4_readLevel (dn + 1))) (pc := 68) 1 dX4_readLevel_68 rfl ?_
            obtain ⟨q6, hq6, hf⟩ := g_bind hf
            refine V_cVv (Y := (m_X4_readLevel (dn + 1))) (pc := 69) (As := []) yf_X4_step kX4 sC_1 (by show 4 < 7 + (dn + 1); omega) (ok_X4_step  q4.2 _  hq6) tw_589 tw_0 tw_587 rfl rfl (Nat.le_of_ble_eq_true rfl) dX4_readLevel_69 ?_
            refine V_aload_n (Y := (m_X4_readLevel (dn + 1))) (pc := 72) 1 dX4_readLevel_72 rfl ?_
            refine V_iload_n (Y := (m_X4_readLevel (dn + 1))) (pc := 73) 2 dX4_readLevel_73 rfl ?_
            refine V_iconst (Y := (m_X4_readLevel (dn + 1))) (pc := 74) (x := (1 : Int32)) dX4_readLevel_74 (by decide +kernel) ?_
            refine V_iadd (Y := (m_X4_readLevel (dn + 1))) (pc := 75) dX4_readLevel_75 ?_
            obtain ⟨q7, hq7, hf⟩ := g_bind hf
            refine V_cVi (Y := (m_X4_readLevel (dn + 1))) (pc := 76) (As := [.int (x1 + (1 : Int32))]) (yf_X4_readLevel dn) kX4 sC_1 (by show 7 + dn < 7 + (dn + 1); omega) (hrc_X4_readLevel (x1 + (1 : Int32)) q6.2 _  hq7) tw_672 tw_6 tw_670 rfl rfl (Nat.le_of_ble_eq_true rfl) dX4_readLevel_76 ?_
            refine V_istore_n (Y := (m_X4_readLevel (dn + 1))) (pc := 79) [(2, .int q7.1), (5, .int (q4.2 1 5)), (0, .ref (b + 1)), (1, .int x1), (3, .int x3), (4, .int x4)] dX4_readLevel_79 (Nat.le_of_ble_eq_true rfl) rfl ?_
            refine V_aload_n (Y := (m_X4_readLevel (dn + 1))) (pc := 80) 2 dX4_readLevel_80 rfl ?_
            refine V_iload (Y := (m_X4_readLevel (dn + 1))) (pc := 81) 1 dX4_readLevel_81 rfl ?_
            refine V_ineg (Y := (m_X4_readLevel (dn + 1))) (pc := 83) dX4_readLevel_83 ?_
            obtain ⟨q8, hq8, hf⟩ := g_bind hf
            refine V_cVv (Y := (m_X4_readLevel (dn + 1))) (pc := 84) (As := [.int (-(q4.2 1 5))]) yf_X4_emit kX4 sC_1 (by show 1 < 7 + (dn + 1); omega) (ok_X4_emit (-(q4.2 1 5)) q7.2 _  hq8) tw_684 tw_9 tw_682 rfl rfl (Nat.le_of_ble_eq_true rfl) dX4_readLevel_84 ?_
            refine V_iinc (Y := (m_X4_readLevel (dn + 1))) (pc := 87) (y := (x4 + (1 : Int32))) 5 [(4, .int (x4 + (1 : Int32))), (2, .int q7.1), (5, .int (q4.2 1 5)), (0, .ref (b + 1)), (1, .int x1), (3, .int x3)] dX4_readLevel_87 rfl rfl (Nat.le_of_ble_eq_true rfl) rfl ?_
            refine V_goto (Y := (m_X4_readLevel (dn + 1))) (pc := 90) (tgt := 33) dX4_readLevel_90 (by decide +kernel) ?_
            exact V_sub [3, 4, 1, 5, 0] rfl (ih x1 q7.1 x3 (x4 + (1 : Int32)) q8.2 z  hf)
def f_X4_readLevel_b29 (rc_X4_readLevel : Int32 → Mem → Option (Int32 × Mem)) (rc_X4_readPiece : Mem → Option (Int32 × Mem))  (x1 : Int32) (x2 : Int32) (s0 : Int32) (M : Mem) : Option (Int32 × Mem) :=
  f_X4_readLevel_b33 rc_X4_readLevel rc_X4_readPiece FU x1 x2 s0 (0 : Int32) M
set_option maxRecDepth 20000 in
set_option maxHeartbeats 4000000 in
theorem ok_X4_readLevel_b29 {l : Launch} {g : Gam} {b : Nat} (rc_X4_readLevel : Int32 → Mem → Option (Int32 × Mem)) (rc_X4_readPiece : Mem → Option (Int32 × Mem)) {dn : Nat} (hrc_X4_readLevel : ∀ (x1 : Int32) (M : Mem) (z : Int32 × Mem), rc_X4_readLevel x1 M = some z → Cn l g (wC b) (m_X4_readLevel dn) [.ref (b + 1), .int x1] M (some (.int z.1)) z.2) (hrc_X4_readPiece : ∀  (M : Mem) (z : Int32 × Mem), rc_X4_readPiece  M = some z → Cn l g (wC b) (m_X4_readPiece dn) [.ref (b + 1)] M (some (.int z.1)) z.2)   (x1 : Int32) (x2 : Int32) (s0 : Int32) (M : Mem) (z : Int32 × Mem)  (hf : f_X4_readLevel_b29 rc_X4_readLevel rc_X4_readPiece x1 x2 s0 M = some z) : V l g (wC b) (m_X4_readLevel (dn + 1)) 29 [(0, .ref (b + 1)), (1, .int x1), (2, .int x2)] [.int s0] M (some (.int z.1)) z.2 := by
  unfold f_X4_readLevel_b29 at hf
  refine V_istore_n (Y := (m_X4_readLevel (dn + 1))) (pc := 29) [(3, .int s0), (0, .ref (b + 1)), (1, .int x1), (2, .int x2)] dX4_readLevel_29 (Nat.le_of_ble_eq_true rfl) rfl ?_
  refine V_iconst (Y := (m_X4_readLevel (dn + 1))) (pc := 30) (x := (0 : Int32)) dX4_readLevel_30 (by decide +kernel) ?_
  refine V_istore (Y := (m_X4_readLevel (dn + 1))) (pc := 31) [(4, .int (0 : Int32)), (3, .int s0), (0, .ref (b + 1)), (1, .int x1), (2, .int x2)] dX4_readLevel_31 (Nat.le_of_ble_eq_true rfl) rfl ?_
  exact V_sub [2, 3, 4, 1, 0] rfl (ok_X4_readLevel_b33 rc_X4_readLevel rc_X4_readPiece hrc_X4_readLevel hrc_X4_readPiece FU x1 x2 s0 (0 : Int32) M z  hf)
def f_X4_readLevel_b0 (rc_X4_readLevel : Int32 → Mem → Option (Int32 × Mem)) (rc_X4_readPiece : Mem → Option (Int32 × Mem))  (x1 : Int32) (M : Mem) : Option (Int32 × Mem) :=
  if x1 < (5 : Int32) then
    (rc_X4_readLevel (x1 + (1 : Int32)) M).bind fun q1 =>
    if x1 = (2 : Int32) then
      f_X4_readLevel_b29 rc_X4_readLevel rc_X4_readPiece x1 q1.1 (1 : Int32) q1.2
    else
      f_X4_readLevel_b29 rc_X4_readLevel rc_X4_readPiece x1 q1.1 (96 : Int32) q1.2
  else
    (rc_X4_readPiece  M).bind fun q2 =>
    if z01 q2.1 = true then some (q2.1, q2.2) else none
set_option maxRecDepth 20000 in
set_option maxHeartbeats 4000000 in
theorem ok_X4_readLevel_b0 {l : Launch} {g : Gam} {b : Nat} (rc_X4_readLevel : Int32 → Mem → Option (Int32 × Mem)) (rc_X4_readPiece : Mem → Option (Int32 × Mem)) {dn : Nat} (hrc_X4_readLevel : ∀ (x1 : Int32) (M : Mem) (z : Int32 × Mem), rc_X4_readLevel x1 M = some z → Cn l g (wC b) (m_X4_readLevel dn) [.ref (b + 1), .int x1] M (some (.int z.1)) z.2) (hrc_X4_readPiece : ∀  (M : Mem) (z : Int32 × Mem), rc_X4_readPiece  M = some z → Cn l g (wC b) (m_X4_readPiece dn) [.ref (b + 1)] M (some (.int z.1)) z.2)   (x1 : Int32) (M : Mem) (z : Int32 × Mem)  (hf : f_X4_readLevel_b0 rc_X4_readLevel rc_X4_readPiece x1 M = some z) : V l g (wC b) (m_X4_readLevel (dn + 1)) 0 [(0, .ref (b + 1)), (1, .int x1)] [] M (some (.int z.1)) z.2 := by
  unfold f_X4_readLevel_b0 at hf
  refine V_iload_n (Y := (m_X4_readLevel (dn + 1))) (pc := 0) 1 dX4_readLevel_0 rfl ?_
  refine V_iconst (Y := (m_X4_readLevel (dn + 1))) (pc := 1) (x := (5 : Int32)) dX4_readLevel_1 (by decide +kernel) ?_
  refine V_icmp_lt (Y := (m_X4_readLevel (dn + 1))) (pc := 2) (tgt := 10) dX4_readLevel_2 (by decide +kernel) hf (fun hf => ?_) (fun hf => ?_)
  · refine V_aload_n (Y := (m_X4_readLevel (dn + 1))) (pc := 10) 0 dX4_readLevel_10 rfl ?_
    refine V_iload_n (Y := (m_X4_readLevel (dn + 1))) (pc := 11) 1 dX4_readLevel_11 rfl ?_
    refine V_iconst (Y := (m_X4_readLevel (dn + 1))) (pc := 12) (x := (1 : Int32)) dX4_readLevel_12 (by decide +kernel) ?_
    refine V_iadd (Y := (m_X4_readLevel (dn + 1))) (pc := 13) dX4_readLevel_13 ?_
    obtain ⟨q1, hq1, hf⟩ := g_bind hf
    refine V_cVi (Y := (m_X4_readLevel (dn + 1))) (pc := 14) (As := [.int (x1 + (1 : Int32))]) (yf_X4_readLevel dn) kX4 sC_1 (by show 7 + dn < 7 + (dn + 1); omega) (hrc_X4_readLevel (x1 + (1 : Int32)) M _  hq1) tw_672 tw_6 tw_670 rfl rfl (Nat.le_of_ble_eq_true rfl) dX4_readLevel_14 ?_
    refine V_istore_n (Y := (m_X4_readLevel (dn + 1))) (pc := 17) [(2, .int q1.1), (0, .ref (b + 1)), (1, .int x1)] dX4_readLevel_17 (Nat.le_of_ble_eq_true rfl) rfl ?_
    refine V_iload_n (Y := (m_X4_readLevel (dn + 1))) (pc := 18) 2 dX4_readLevel_18 rfl ?_
    refine V_iconst (Y := (m_X4_readLevel (dn + 1))) (pc := 19) (x := (2 : Int32)) dX4_readLevel_19 (by decide +kernel) ?_
    refine V_icmp_ne (Y := (m_X4_readLevel (dn + 1))) (pc := 20) (tgt := 27) dX4_readLevel_20 (by decide +kernel) hf (fun hf => ?_) (fun hf => ?_)
    · refine V_bipush (Y := (m_X4_readLevel (dn + 1))) (pc := 27) (x := (96 : Int32)) dX4_readLevel_27 (by decide +kernel) ?_
      exact V_sub [1, 2, 0] rfl (ok_X4_readLevel_b29 rc_X4_readLevel rc_X4_readPiece hrc_X4_readLevel hrc_X4_readPiece x1 q1.1 (96 : Int32) q1.2 z  hf)
    · refine V_iconst (Y := (m_X4_readLevel (dn + 1))) (pc := 23) (x := (1 : Int32)) dX4_readLevel_23 (by decide +kernel) ?_
      refine V_goto (Y := (m_X4_readLevel (dn + 1))) (pc := 24) (tgt := 29) dX4_readLevel_24 (by decide +kernel) ?_
      exact V_sub [1, 2, 0] rfl (ok_X4_readLevel_b29 rc_X4_readLevel rc_X4_readPiece hrc_X4_readLevel hrc_X4_readPiece x1 q1.1 (1 : Int32) q1.2 z  hf)
  · refine V_aload_n (Y := (m_X4_readLevel (dn + 1))) (pc := 5) 0 dX4_readLevel_5 rfl ?_
    obtain ⟨q2, hq2, hf⟩ := g_bind hf
    refine V_cVi (Y := (m_X4_readLevel (dn + 1))) (pc := 6) (As := []) (yf_X4_readPiece dn) kX4 sC_1 (by show 7 + dn < 7 + (dn + 1); omega) (hrc_X4_readPiece  M _  hq2) tw_676 tw_7 tw_674 rfl rfl (Nat.le_of_ble_eq_true rfl) dX4_readLevel_6 ?_
    obtain ⟨hz3, hf⟩ := g_if hf
    obtain rfl := Option.some.inj hf
    exact V_zret (Y := (m_X4_readLevel (dn + 1))) hz3 rfl dX4_readLevel_9
def f_X4_readNot_b0 (rc_X4_readPiece : Mem → Option (Int32 × Mem))   (M : Mem) : Option (Int32 × Mem) :=
  if (M 1 11) < (8 : Int32) then
    (f_X4_step  (mset M 1 11 ((M 1 11) + (1 : Int32)))).bind fun q1 =>
    (rc_X4_readPiece  q1.2).bind fun q2 =>
    (f_X4_emit (-33 : Int32) (mset q2.2 1 11 ((q2.2 1 11) - (1 : Int32)))).bind fun q3 =>
    if z01 q2.1 = true then some (q2.1, q3.2) else none
  else
    some ((0 : Int32), M)
set_option maxRecDepth 20000 in
set_option maxHeartbeats 4000000 in
theorem ok_X4_readNot_b0 {l : Launch} {g : Gam} {b : Nat} (rc_X4_readPiece : Mem → Option (Int32 × Mem)) {dn : Nat} (hrc_X4_readPiece : ∀  (M : Mem) (z : Int32 × Mem), rc_X4_readPiece  M = some z → Cn l g (wC b) (m_X4_readPiece dn) [.ref (b + 1)] M (some (.int z.1)) z.2)    (M : Mem) (z : Int32 × Mem)  (hf : f_X4_readNot_b0 rc_X4_readPiece M = some z) : V l g (wC b) (m_X4_readNot (dn + 1)) 0 [(0, .ref (b + 1))] [] M (some (.int z.1)) z.2 := by
  unfold f_X4_readNot_b0 at hf
  refine V_aload_n (Y := (m_X4_readNot (dn + 1))) (pc := 0) 0 dX4_readNot_0 rfl ?_
  refine V_gi (Y := (m_X4_readNot (dn + 1))) (pc := 1) 11 kX4 sC_1 (by decide +kernel) rfl tw_114 dX4_readNot_1 ?_
  refine V_bipush (Y := (m_X4_readNot (dn + 1))) (pc := 4) (x := (8 : Int32)) dX4_readNot_4 (by decide +kernel) ?_
  refine V_icmp_lt (Y := (m_X4_readNot (dn + 1))) (pc := 6) (tgt := 11) dX4_readNot_6 (by decide +kernel) hf (fun hf => ?_) (fun hf => ?_)
  · refine V_aload_n (Y := (m_X4_readNot (dn + 1))) (pc := 11) 0 dX4_readNot_11 rfl ?_
    refine V_dup (Y := (m_X4_readNot (dn + 1))) (pc := 12) dX4_readNot_12 rfl ?_
    refine V_gi (Y := (m_X4_readNot (dn + 1))) (pc := 13) 11 kX4 sC_1 (by decide +kernel) rfl tw_114 dX4_readNot_13 ?_
    refine V_iconst (Y := (m_X4_readNot (dn + 1))) (pc := 16) (x := (1 : Int32)) dX4_readNot_16 (by decide +kernel) ?_
    refine V_iadd (Y := (m_X4_readNot (dn + 1))) (pc := 17) dX4_readNot_17 ?_
    refine V_pi (Y := (m_X4_readNot (dn + 1))) (pc := 18) 11 kX4 sC_1 (by decide +kernel) rfl rfl rfl tw_114 dX4_readNot_18 ?_
    refine V_aload_n (Y := (m_X4_readNot (dn + 1))) (pc := 21) 0 dX4_readNot_21 rfl ?_
    obtain ⟨q1, hq1, hf⟩ := g_bind hf
    refine V_cVv (Y := (m_X4_readNot (dn + 1))) (pc := 22) (As := []) yf_X4_step kX4 sC_1 (by show 4 < 7 + (dn + 1); omega) (ok_X4_step  (mset M 1 11 ((M 1 11) + (1 : Int32))) _  hq1) tw_589 tw_0 tw_587 rfl rfl (Nat.le_of_ble_eq_true rfl) dX4_readNot_22 ?_
    refine V_aload_n (Y := (m_X4_readNot (dn + 1))) (pc := 25) 0 dX4_readNot_25 rfl ?_
    obtain ⟨q2, hq2, hf⟩ := g_bind hf
    refine V_cVi (Y := (m_X4_readNot (dn + 1))) (pc := 26) (As := []) (yf_X4_readPiece dn) kX4 sC_1 (by show 7 + dn < 7 + (dn + 1); omega) (hrc_X4_readPiece  q1.2 _  hq2) tw_676 tw_7 tw_674 rfl rfl (Nat.le_of_ble_eq_true rfl) dX4_readNot_26 ?_
    refine V_istore_n (Y := (m_X4_readNot (dn + 1))) (pc := 29) [(1, .int q2.1), (0, .ref (b + 1))] dX4_readNot_29 (Nat.le_of_ble_eq_true rfl) rfl ?_
    refine V_aload_n (Y := (m_X4_readNot (dn + 1))) (pc := 30) 1 dX4_readNot_30 rfl ?_
    refine V_dup (Y := (m_X4_readNot (dn + 1))) (pc := 31) dX4_readNot_31 rfl ?_
    refine V_gi (Y := (m_X4_readNot (dn + 1))) (pc := 32) 11 kX4 sC_1 (by decide +kernel) rfl tw_114 dX4_readNot_32 ?_
    refine V_iconst (Y := (m_X4_readNot (dn + 1))) (pc := 35) (x := (1 : Int32)) dX4_readNot_35 (by decide +kernel) ?_
    refine V_isub (Y := (m_X4_readNot (dn + 1))) (pc := 36) dX4_readNot_36 ?_
    refine V_pi (Y := (m_X4_readNot (dn + 1))) (pc := 37) 11 kX4 sC_1 (by decide +kernel) rfl rfl rfl tw_114 dX4_readNot_37 ?_
    refine V_aload_n (Y := (m_X4_readNot (dn + 1))) (pc := 40) 1 dX4_readNot_40 rfl ?_
    refine V_bipush (Y := (m_X4_readNot (dn + 1))) (pc := 41) (x := (-33 : Int32)) dX4_readNot_41 (by decide +kernel) ?_
    obtain ⟨q3, hq3, hf⟩ := g_bind hf
    refine V_cVv (Y := (m_X4_readNot (dn + 1))) (pc := 43) (As := [.int (-33 : Int32)]) yf_X4_emit kX4 sC_1 (by show 1 < 7 + (dn + 1); omega) (ok_X4_emit (-33 : Int32) (mset q2.2 1 11 ((q2.2 1 11) - (1 : Int32))) _  hq3) tw_684 tw_9 tw_682 rfl rfl (Nat.le_of_ble_eq_true rfl) dX4_readNot_43 ?_
    refine V_iload_n (Y := (m_X4_readNot (dn + 1))) (pc := 46) 0 dX4_readNot_46 rfl ?_
    obtain ⟨hz4, hf⟩ := g_if hf
    obtain rfl := Option.some.inj hf
    exact V_zret (Y := (m_X4_readNot (dn + 1))) hz4 rfl dX4_readNot_47
  · refine V_iconst (Y := (m_X4_readNot (dn + 1))) (pc := 9) (x := (0 : Int32)) dX4_readNot_9 (by decide +kernel) ?_
    obtain rfl := Option.some.inj hf
    exact V_zret (Y := (m_X4_readNot (dn + 1))) z01_0 rfl dX4_readNot_10
def f_X4_readPiece_b119 (rc_X4_readBrackets : Mem → Option (Int32 × Mem)) (rc_X4_readNot : Mem → Option (Int32 × Mem))   (M : Mem) : Option (Int32 × Mem) :=
  (f_X4_step  (mset M 1 8 ((M 1 8) + (1 : Int32)))).bind fun q1 =>
  some ((1 : Int32), q1.2)
set_option maxRecDepth 20000 in
set_option maxHeartbeats 4000000 in
theorem ok_X4_readPiece_b119 {l : Launch} {g : Gam} {b : Nat} (rc_X4_readBrackets : Mem → Option (Int32 × Mem)) (rc_X4_readNot : Mem → Option (Int32 × Mem)) {dn : Nat} (hrc_X4_readBrackets : ∀  (M : Mem) (z : Int32 × Mem), rc_X4_readBrackets  M = some z → Cn l g (wC b) (m_X4_readBrackets dn) [.ref (b + 1)] M (some (.int z.1)) z.2) (hrc_X4_readNot : ∀  (M : Mem) (z : Int32 × Mem), rc_X4_readNot  M = some z → Cn l g (wC b) (m_X4_readNot dn) [.ref (b + 1)] M (some (.int z.1)) z.2)    (M : Mem) (z : Int32 × Mem)  (hf : f_X4_readPiece_b119 rc_X4_readBrackets rc_X4_readNot M = some z) : V l g (wC b) (m_X4_readPiece (dn + 1)) 119 [(0, .ref (b + 1))] [] M (some (.int z.1)) z.2 := by
  unfold f_X4_readPiece_b119 at hf
  refine V_aload_n (Y := (m_X4_readPiece (dn + 1))) (pc := 119) 0 dX4_readPiece_119 rfl ?_
  refine V_dup (Y := (m_X4_readPiece (dn + 1))) (pc := 120) dX4_readPiece_120 rfl ?_
  refine V_gi (Y := (m_X4_readPiece (dn + 1))) (pc := 121) 8 kX4 sC_1 (by decide +kernel) rfl tw_110 dX4_readPiece_121 ?_
  refine V_iconst (Y := (m_X4_readPiece (dn + 1))) (pc := 124) (x := (1 : Int32)) dX4_readPiece_124 (by decide +kernel) ?_
  refine V_iadd (Y := (m_X4_readPiece (dn + 1))) (pc := 125) dX4_readPiece_125 ?_
  refine V_pi (Y := (m_X4_readPiece (dn + 1))) (pc := 126) 8 kX4 sC_1 (by decide +kernel) rfl rfl rfl tw_110 dX4_readPiece_126 ?_
  refine V_aload_n (Y := (m_X4_readPiece (dn + 1))) (pc := 129) 0 dX4_readPiece_129 rfl ?_
  obtain ⟨q1, hq1, hf⟩ := g_bind hf
  refine V_cVv (Y := (m_X4_readPiece (dn + 1))) (pc := 130) (As := []) yf_X4_step kX4 sC_1 (by show 4 < 7 + (dn + 1); omega) (ok_X4_step  (mset M 1 8 ((M 1 8) + (1 : Int32))) _  hq1) tw_589 tw_0 tw_587 rfl rfl (Nat.le_of_ble_eq_true rfl) dX4_readPiece_130 ?_
  refine V_iconst (Y := (m_X4_readPiece (dn + 1))) (pc := 133) (x := (1 : Int32)) dX4_readPiece_133 (by decide +kernel) ?_
  obtain rfl := Option.some.inj hf
  exact V_zret (Y := (m_X4_readPiece (dn + 1))) z01_1 rfl dX4_readPiece_134
def f_X4_readPiece_b100 (rc_X4_readBrackets : Mem → Option (Int32 × Mem)) (rc_X4_readNot : Mem → Option (Int32 × Mem))   (M : Mem) : Option (Int32 × Mem) :=
  if ixb (M 1 2) 96 = true then
  (f_X4_emit (-(M 2 (ix (M 1 2)))) M).bind fun q2 =>
  f_X4_readPiece_b119 rc_X4_readBrackets rc_X4_readNot  q2.2
  else none
set_option maxRecDepth 20000 in
set_option maxHeartbeats 4000000 in
theorem ok_X4_readPiece_b100 {l : Launch} {g : Gam} {b : Nat} (rc_X4_readBrackets : Mem → Option (Int32 × Mem)) (rc_X4_readNot : Mem → Option (Int32 × Mem)) {dn : Nat} (hrc_X4_readBrackets : ∀  (M : Mem) (z : Int32 × Mem), rc_X4_readBrackets  M = some z → Cn l g (wC b) (m_X4_readBrackets dn) [.ref (b + 1)] M (some (.int z.1)) z.2) (hrc_X4_readNot : ∀  (M : Mem) (z : Int32 × Mem), rc_X4_readNot  M = some z → Cn l g (wC b) (m_X4_readNot dn) [.ref (b + 1)] M (some (.int z.1)) z.2)    (M : Mem) (z : Int32 × Mem)  (hf : f_X4_readPiece_b100 rc_X4_readBrackets rc_X4_readNot M = some z) : V l g (wC b) (m_X4_readPiece (dn + 1)) 100 [(0, .ref (b + 1))] [] M (some (.int z.1)) z.2 := by
  unfold f_X4_readPiece_b100 at hf
  refine V_aload_n (Y := (m_X4_readPiece (dn + 1))) (pc := 100) 0 dX4_readPiece_100 rfl ?_
  refine V_aload_n (Y := (m_X4_readPiece (dn + 1))) (pc := 101) 0 dX4_readPiece_101 rfl ?_
  refine V_grL (Y := (m_X4_readPiece (dn + 1))) (pc := 102) (x := 2) 0 kX4 sC_1 (by decide +kernel) rfl rfl tw_97 dX4_readPiece_102 ?_
  refine V_aload_n (Y := (m_X4_readPiece (dn + 1))) (pc := 105) 0 dX4_readPiece_105 rfl ?_
  refine V_gi (Y := (m_X4_readPiece (dn + 1))) (pc := 106) 2 kX4 sC_1 (by decide +kernel) rfl tw_100 dX4_readPiece_106 ?_
  obtain ⟨hi1, hf⟩ := g_if hf
  refine V_iald (Y := (m_X4_readPiece (dn + 1))) (pc := 109) sC_2 hi1 dX4_readPiece_109 ?_
  refine V_ineg (Y := (m_X4_readPiece (dn + 1))) (pc := 110) dX4_readPiece_110 ?_
  obtain ⟨q2, hq2, hf⟩ := g_bind hf
  refine V_cVv (Y := (m_X4_readPiece (dn + 1))) (pc := 111) (As := [.int (-(M 2 (ix (M 1 2))))]) yf_X4_emit kX4 sC_1 (by show 1 < 7 + (dn + 1); omega) (ok_X4_emit (-(M 2 (ix (M 1 2)))) M _  hq2) tw_684 tw_9 tw_682 rfl rfl (Nat.le_of_ble_eq_true rfl) dX4_readPiece_111 ?_
  refine V_goto (Y := (m_X4_readPiece (dn + 1))) (pc := 114) (tgt := 119) dX4_readPiece_114 (by decide +kernel) ?_
  exact V_sub [0] rfl (ok_X4_readPiece_b119 rc_X4_readBrackets rc_X4_readNot hrc_X4_readBrackets hrc_X4_readNot  q2.2 z  hf)
def f_X4_readPiece_b0 (rc_X4_readBrackets : Mem → Option (Int32 × Mem)) (rc_X4_readNot : Mem → Option (Int32 × Mem))   (M : Mem) : Option (Int32 × Mem) :=
  if (M 1 4) = (3 : Int32) then
    if (M 1 5) = (33 : Int32) then
      (rc_X4_readNot  M).bind fun q6 =>
      if z01 q6.1 = true then some (q6.1, q6.2) else none
    else
      if (M 1 5) = (40 : Int32) then
        (rc_X4_readBrackets  M).bind fun q5 =>
        if q5.1 = 0 then
          some ((0 : Int32), q5.2)
        else
          some ((1 : Int32), q5.2)
      else
        some ((0 : Int32), M)
  else
    if (M 1 4) = (1 : Int32) then
      (f_X4_emit (M 1 5) M).bind fun q4 =>
      f_X4_readPiece_b119 rc_X4_readBrackets rc_X4_readNot  q4.2
    else
      (f_X4_isSpelt 3 M).bind fun q1 =>
      if q1.1 = 0 then
        (f_X4_isSpelt 4 q1.2).bind fun q2 =>
        if q2.1 = 0 then
          if (q2.2 1 6) = (1 : Int32) then
            (f_X4_isSpelt 5 q2.2).bind fun q3 =>
            if q3.1 = 0 then
              some ((0 : Int32), q3.2)
            else
              f_X4_readPiece_b100 rc_X4_readBrackets rc_X4_readNot  q3.2
          else
            some ((0 : Int32), q2.2)
        else
          f_X4_readPiece_b100 rc_X4_readBrackets rc_X4_readNot  q2.2
      else
        f_X4_readPiece_b100 rc_X4_readBrackets rc_X4_readNot  q1.2
set_option maxRecDepth 20000 in
set_option maxHeartbeats 4000000 in
theorem ok_X4_readPiece_b0 {l : Launch} {g : Gam} {b : Nat} (rc_X4_readBrackets : Mem → Option (Int32 × Mem)) (rc_X4_readNot : Mem → Option (Int32 × Mem)) {dn : Nat} (hrc_X4_readBrackets : ∀  (M : Mem) (z : Int32 × Mem), rc_X4_readBrackets  M = some z → Cn l g (wC b) (m_X4_readBrackets dn) [.ref (b + 1)] M (some (.int z.1)) z.2) (hrc_X4_readNot : ∀  (M : Mem) (z : Int32 × Mem), rc_X4_readNot  M = some z → Cn l g (wC b) (m_X4_readNot dn) [.ref (b + 1)] M (some (.int z.1)) z.2)    (M : Mem) (z : Int32 × Mem)  (hf : f_X4_readPiece_b0 rc_X4_readBrackets rc_X4_readNot M = some z) : V l g (wC b) (m_X4_readPiece (dn + 1)) 0 [(0, .ref (b + 1))] [] M (some (.int z.1)) z.2 := by
  unfold f_X4_readPiece_b0 at hf
  refine V_aload_n (Y := (m_X4_readPiece (dn + 1))) (pc := 0) 0 dX4_readPiece_0 rfl ?_
  refine V_gi (Y := (m_X4_readPiece (dn + 1))) (pc := 1) 4 kX4 sC_1 (by decide +kernel) rfl tw_103 dX4_readPiece_1 ?_
  refine V_iconst (Y := (m_X4_readPiece (dn + 1))) (pc := 4) (x := (3 : Int32)) dX4_readPiece_4 (by decide +kernel) ?_
  refine V_icmp_ne (Y := (m_X4_readPiece (dn + 1))) (pc := 5) (tgt := 46) dX4_readPiece_5 (by decide +kernel) hf (fun hf => ?_) (fun hf => ?_)
  · refine V_aload_n (Y := (m_X4_readPiece (dn + 1))) (pc := 46) 0 dX4_readPiece_46 rfl ?_
    refine V_gi (Y := (m_X4_readPiece (dn + 1))) (pc := 47) 4 kX4 sC_1 (by decide +kernel) rfl tw_103 dX4_readPiece_47 ?_
    refine V_iconst (Y := (m_X4_readPiece (dn + 1))) (pc := 50) (x := (1 : Int32)) dX4_readPiece_50 (by decide +kernel) ?_
    refine V_icmp_ne (Y := (m_X4_readPiece (dn + 1))) (pc := 51) (tgt := 65) dX4_readPiece_51 (by decide +kernel) hf (fun hf => ?_) (fun hf => ?_)
    · refine V_aload_n (Y := (m_X4_readPiece (dn + 1))) (pc := 65) 0 dX4_readPiece_65 rfl ?_
      refine V_ldcS (Y := (m_X4_readPiece (dn + 1))) (pc := 66) (i := 3) rfl rfl dX4_readPiece_66 ?_
      obtain ⟨q1, hq1, hf⟩ := g_bind hf
      refine V_cVi (Y := (m_X4_readPiece (dn + 1))) (pc := 68) (As := [.ref (g.2.2.2.2.2.1 3)]) yf_X4_isSpelt kX4 sC_1 (by show 6 < 7 + (dn + 1); omega) (ok_X4_isSpelt 3 M _  hq1) tw_613 tw_4 tw_611 rfl rfl (Nat.le_of_ble_eq_true rfl) dX4_readPiece_68 ?_
      refine V_if_ne (Y := (m_X4_readPiece (dn + 1))) (pc := 71) (tgt := 100) dX4_readPiece_71 (by decide +kernel) hf (fun hf => ?_) (fun hf => ?_)
      · exact V_sub [0] rfl (ok_X4_readPiece_b100 rc_X4_readBrackets rc_X4_readNot hrc_X4_readBrackets hrc_X4_readNot  q1.2 z  hf)
      · refine V_aload_n (Y := (m_X4_readPiece (dn + 1))) (pc := 74) 0 dX4_readPiece_74 rfl ?_
        refine V_ldcS (Y := (m_X4_readPiece (dn + 1))) (pc := 75) (i := 4) rfl rfl dX4_readPiece_75 ?_
        obtain ⟨q2, hq2, hf⟩ := g_bind hf
        refine V_cVi (Y := (m_X4_readPiece (dn + 1))) (pc := 77) (As := [.ref (g.2.2.2.2.2.1 4)]) yf_X4_isSpelt kX4 sC_1 (by show 6 < 7 + (dn + 1); omega) (ok_X4_isSpelt 4 q1.2 _  hq2) tw_613 tw_4 tw_611 rfl rfl (Nat.le_of_ble_eq_true rfl) dX4_readPiece_77 ?_
        refine V_if_ne (Y := (m_X4_readPiece (dn + 1))) (pc := 80) (tgt := 100) dX4_readPiece_80 (by decide +kernel) hf (fun hf => ?_) (fun hf => ?_)
        · exact V_sub [0] rfl (ok_X4_readPiece_b100 rc_X4_readBrackets rc_X4_readNot hrc_X4_readBrackets hrc_X4_readNot  q2.2 z  hf)
        · refine V_aload_n (Y := (m_X4_readPiece (dn + 1))) (pc := 83) 0 dX4_readPiece_83 rfl ?_
          refine V_gi (Y := (m_X4_readPiece (dn + 1))) (pc := 84) 6 kX4 sC_1 (by decide +kernel) rfl tw_106 dX4_readPiece_84 ?_
          refine V_iconst (Y := (m_X4_readPiece (dn + 1))) (pc := 87) (x := (1 : Int32)) dX4_readPiece_87 (by decide +kernel) ?_
          refine V_icmp_ne (Y := (m_X4_readPiece (dn + 1))) (pc := 88) (tgt := 117) dX4_readPiece_88 (by decide +kernel) hf (fun hf => ?_) (fun hf => ?_)
          · refine V_iconst (Y := (m_X4_readPiece (dn + 1))) (pc := 117) (x := (0 : Int32)) dX4_readPiece_117 (by decide +kernel) ?_
            obtain rfl := Option.some.inj hf
            exact V_zret (Y := (m_X4_readPiece (dn + 1))) z01_0 rfl dX4_readPiece_118
          · refine V_aload_n (Y := (m_X4_readPiece (dn + 1))) (pc := 91) 0 dX4_readPiece_91 rfl ?_
            refine V_ldcS (Y := (m_X4_readPiece (dn + 1))) (pc := 92) (i := 5) rfl rfl dX4_readPiece_92 ?_
            obtain ⟨q3, hq3, hf⟩ := g_bind hf
            refine V_cVi (Y := (m_X4_readPiece (dn + 1))) (pc := 94) (As := [.ref (g.2.2.2.2.2.1 5)]) yf_X4_isSpelt kX4 sC_1 (by show 6 < 7 + (dn + 1); omega) (ok_X4_isSpelt 5 q2.2 _  hq3) tw_613 tw_4 tw_611 rfl rfl (Nat.le_of_ble_eq_true rfl) dX4_readPiece_94 ?_
            refine V_if_eq (Y := (m_X4_readPiece (dn + 1))) (pc := 97) (tgt := 117) dX4_readPiece_97 (by decide +kernel) hf (fun hf => ?_) (fun hf => ?_)
            · refine V_iconst (Y := (m_X4_readPiece (dn + 1))) (pc := 117) (x := (0 : Int32)) dX4_readPiece_117 (by decide +kernel) ?_
              obtain rfl := Option.some.inj hf
              exact V_zret (Y := (m_X4_readPiece (dn + 1))) z01_0 rfl dX4_readPiece_118
            · exact V_sub [0] rfl (ok_X4_readPiece_b100 rc_X4_readBrackets rc_X4_readNot hrc_X4_readBrackets hrc_X4_readNot  q3.2 z  hf)
    · refine V_aload_n (Y := (m_X4_readPiece (dn + 1))) (pc := 54) 0 dX4_readPiece_54 rfl ?_
      refine V_aload_n (Y := (m_X4_readPiece (dn + 1))) (pc := 55) 0 dX4_readPiece_55 rfl ?_
      refine V_gi (Y := (m_X4_readPiece (dn + 1))) (pc := 56) 5 kX4 sC_1 (by decide +kernel) rfl tw_104 dX4_readPiece_56 ?_
      obtain ⟨q4, hq4, hf⟩ := g_bind hf
      refine V_cVv (Y := (m_X4_readPiece (dn + 1))) (pc := 59) (As := [.int (M 1 5)]) yf_X4_emit kX4 sC_1 (by show 1 < 7 + (dn + 1); omega) (ok_X4_emit (M 1 5) M _  hq4) tw_684 tw_9 tw_682 rfl rfl (Nat.le_of_ble_eq_true rfl) dX4_readPiece_59 ?_
      refine V_goto (Y := (m_X4_readPiece (dn + 1))) (pc := 62) (tgt := 119) dX4_readPiece_62 (by decide +kernel) ?_
      exact V_sub [0] rfl (ok_X4_readPiece_b119 rc_X4_readBrackets rc_X4_readNot hrc_X4_readBrackets hrc_X4_readNot  q4.2 z  hf)
  · refine V_aload_n (Y := (m_X4_readPiece (dn + 1))) (pc := 8) 0 dX4_readPiece_8 rfl ?_
    refine V_gi (Y := (m_X4_readPiece (dn + 1))) (pc := 9) 5 kX4 sC_1 (by decide +kernel) rfl tw_104 dX4_readPiece_9 ?_
    refine V_bipush (Y := (m_X4_readPiece (dn + 1))) (pc := 12) (x := (33 : Int32)) dX4_readPiece_12 (by decide +kernel) ?_
    refine V_icmp_ne (Y := (m_X4_readPiece (dn + 1))) (pc := 14) (tgt := 24) dX4_readPiece_14 (by decide +kernel) hf (fun hf => ?_) (fun hf => ?_)
    · refine V_aload_n (Y := (m_X4_readPiece (dn + 1))) (pc := 24) 0 dX4_readPiece_24 rfl ?_
      refine V_gi (Y := (m_X4_readPiece (dn + 1))) (pc := 25) 5 kX4 sC_1 (by decide +kernel) rfl tw_104 dX4_readPiece_25 ?_
      refine V_bipush (Y := (m_X4_readPiece (dn + 1))) (pc := 28) (x := (40 : Int32)) dX4_readPiece_28 (by decide +kernel) ?_
      refine V_icmp_ne (Y := (m_X4_readPiece (dn + 1))) (pc := 30) (tgt := 44) dX4_readPiece_30 (by decide +kernel) hf (fun hf => ?_) (fun hf => ?_)
      · refine V_iconst (Y := (m_X4_readPiece (dn + 1))) (pc := 44) (x := (0 : Int32)) dX4_readPiece_44 (by decide +kernel) ?_
        obtain rfl := Option.some.inj hf
        exact V_zret (Y := (m_X4_readPiece (dn + 1))) z01_0 rfl dX4_readPiece_45
      · refine V_aload_n (Y := (m_X4_readPiece (dn + 1))) (pc := 33) 0 dX4_readPiece_33 rfl ?_
        obtain ⟨q5, hq5, hf⟩ := g_bind hf
        refine V_cVi (Y := (m_X4_readPiece (dn + 1))) (pc := 34) (As := []) (yf_X4_readBrackets dn) kX4 sC_1 (by show 7 + dn < 7 + (dn + 1); omega) (hrc_X4_readBrackets  M _  hq5) tw_688 tw_10 tw_686 rfl rfl (Nat.le_of_ble_eq_true rfl) dX4_readPiece_34 ?_
        refine V_if_eq (Y := (m_X4_readPiece (dn + 1))) (pc := 37) (tgt := 44) dX4_readPiece_37 (by decide +kernel) hf (fun hf => ?_) (fun hf => ?_)
        · refine V_iconst (Y := (m_X4_readPiece (dn + 1))) (pc := 44) (x := (0 : Int32)) dX4_readPiece_44 (by decide +kernel) ?_
          obtain rfl := Option.some.inj hf
          exact V_zret (Y := (m_X4_readPiece (dn + 1))) z01_0 rfl dX4_readPiece_45
        · refine V_iconst (Y := (m_X4_readPiece (dn + 1))) (pc := 40) (x := (1 : Int32)) dX4_readPiece_40 (by decide +kernel) ?_
          refine V_goto (Y := (m_X4_readPiece (dn + 1))) (pc := 41) (tgt := 45) dX4_readPiece_41 (by decide +kernel) ?_
          obtain rfl := Option.some.inj hf
          exact V_zret (Y := (m_X4_readPiece (dn + 1))) z01_1 rfl dX4_readPiece_45
    · refine V_aload_n (Y := (m_X4_readPiece (dn + 1))) (pc := 17) 0 dX4_readPiece_17 rfl ?_
      obtain ⟨q6, hq6, hf⟩ := g_bind hf
      refine V_cVi (Y := (m_X4_readPiece (dn + 1))) (pc := 18) (As := []) (yf_X4_readNot dn) kX4 sC_1 (by show 7 + dn < 7 + (dn + 1); omega) (hrc_X4_readNot  M _  hq6) tw_680 tw_8 tw_678 rfl rfl (Nat.le_of_ble_eq_true rfl) dX4_readPiece_18 ?_
      refine V_goto (Y := (m_X4_readPiece (dn + 1))) (pc := 21) (tgt := 45) dX4_readPiece_21 (by decide +kernel) ?_
      obtain ⟨hz7, hf⟩ := g_if hf
      obtain rfl := Option.some.inj hf
      exact V_zret (Y := (m_X4_readPiece (dn + 1))) hz7 rfl dX4_readPiece_45
set_option maxRecDepth 20000 in
set_option maxHeartbeats 4000000 in
def G_X4_readBrackets : Nat → (Mem → Option (Int32 × Mem)) × (Int32 → Mem → Option (Int32 × Mem)) × (Mem → Option (Int32 × Mem)) × (Mem → Option (Int32 × Mem))
  | 0 => (fun _ => none, fun _ _ => none, fun _ => none, fun _ => none)
  | n + 1 => (f_X4_readBrackets_b0 ((G_X4_readBrackets n).2.1), f_X4_readLevel_b0 ((G_X4_readBrackets n).2.1) ((G_X4_readBrackets n).2.2.2), f_X4_readNot_b0 ((G_X4_readBrackets n).2.2.2), f_X4_readPiece_b0 ((G_X4_readBrackets n).1) ((G_X4_readBrackets n).2.2.1))
def f_X4_readBrackets (n : Nat) : (Mem → Option (Int32 × Mem)) := (G_X4_readBrackets n).1
def f_X4_readLevel (n : Nat) : (Int32 → Mem → Option (Int32 × Mem)) := (G_X4_readBrackets n).2.1
def f_X4_readNot (n : Nat) : (Mem → Option (Int32 × Mem)) := (G_X4_readBrackets n).2.2.1
def f_X4_readPiece (n : Nat) : (Mem → Option (Int32 × Mem)) := (G_X4_readBrackets n).2.2.2
theorem ok_G_X4_readBrackets {l : Launch} {g : Gam} {b : Nat} : ∀ n : Nat, (∀  (M : Mem) (z : Int32 × Mem), (G_X4_readBrackets n).1  M = some z → Cn l g (wC b) (m_X4_readBrackets n) [.ref (b + 1)] M (some (.int z.1)) z.2) ∧ (∀ (x1 : Int32) (M : Mem) (z : Int32 × Mem), (G_X4_readBrackets n).2.1 x1 M = some z → Cn l g (wC b) (m_X4_readLevel n) [.ref (b + 1), .int x1] M (some (.int z.1)) z.2) ∧ (∀  (M : Mem) (z : Int32 × Mem), (G_X4_readBrackets n).2.2.1  M = some z → Cn l g (wC b) (m_X4_readNot n) [.ref (b + 1)] M (some (.int z.1)) z.2) ∧ (∀  (M : Mem) (z : Int32 × Mem), (G_X4_readBrackets n).2.2.2  M = some z → Cn l g (wC b) (m_X4_readPiece n) [.ref (b + 1)] M (some (.int z.1)) z.2) := by
  intro n
  induction n with
  | zero => exact ⟨(fun _ _ hf => by cases hf), (fun _ _ _ hf => by cases hf), (fun _ _ hf => by cases hf), (fun _ _ hf => by cases hf)⟩
  | succ n ih =>
    exact ⟨fun  M z  hf => Cn_of (show plainName yX4_readBrackets.cls = true by decide +kernel) (Nat.le_of_ble_eq_true rfl) (ok_X4_readBrackets_b0 _ (ih.2.1)  M z  hf), fun x1 M z  hf => Cn_of (show plainName yX4_readLevel.cls = true by decide +kernel) (Nat.le_of_ble_eq_true rfl) (ok_X4_readLevel_b0 _ _ (ih.2.1) (ih.2.2.2) x1 M z  hf), fun  M z  hf => Cn_of (show plainName yX4_readNot.cls = true by decide +kernel) (Nat.le_of_ble_eq_true rfl) (ok_X4_readNot_b0 _ (ih.2.2.2)  M z  hf), fun  M z  hf => Cn_of (show plainName yX4_readPiece.cls = true by decide +kernel) (Nat.le_of_ble_eq_true rfl) (ok_X4_readPiece_b0 _ _ (ih.1) (ih.2.2.1)  M z  hf)⟩
theorem ok_X4_readBrackets {l : Launch} {g : Gam} {b : Nat} (n : Nat) : ∀  (M : Mem) (z : Int32 × Mem), f_X4_readBrackets n  M = some z → Cn l g (wC b) (m_X4_readBrackets n) [.ref (b + 1)] M (some (.int z.1)) z.2 := (ok_G_X4_readBrackets n).1
theorem ok_X4_readLevel {l : Launch} {g : Gam} {b : Nat} (n : Nat) : ∀ (x1 : Int32) (M : Mem) (z : Int32 × Mem), f_X4_readLevel n x1 M = some z → Cn l g (wC b) (m_X4_readLevel n) [.ref (b + 1), .int x1] M (some (.int z.1)) z.2 := (ok_G_X4_readBrackets n).2.1
theorem ok_X4_readNot {l : Launch} {g : Gam} {b : Nat} (n : Nat) : ∀  (M : Mem) (z : Int32 × Mem), f_X4_readNot n  M = some z → Cn l g (wC b) (m_X4_readNot n) [.ref (b + 1)] M (some (.int z.1)) z.2 := (ok_G_X4_readBrackets n).2.2.1
theorem ok_X4_readPiece {l : Launch} {g : Gam} {b : Nat} (n : Nat) : ∀  (M : Mem) (z : Int32 × Mem), f_X4_readPiece n  M = some z → Cn l g (wC b) (m_X4_readPiece n) [.ref (b + 1)] M (some (.int z.1)) z.2 := (ok_G_X4_readBrackets n).2.2.2

abbrev m_X4_readText : Mth := (yX4_readText, cX4_readText, 1, some .boolean, 128)
theorem yf_X4_readText : YF m_X4_readText 0 := ⟨tw_586, tw_66, by decide +kernel, by decide +kernel⟩
def f_X4_readText_bc25_1   (M : Mem) : Option (Int32 × Mem) :=
  (f_X4_step  (mset M 1 11 (0 : Int32))).bind fun q1 =>
  (f_X4_readKey  q1.2).bind fun q2 =>
  if q2.1 = 0 then
    some ((0 : Int32), q2.2)
  else
    (f_X4_readVoyage  q2.2).bind fun q3 =>
    if q3.1 = 0 then
      some ((0 : Int32), q3.2)
    else
      (f_X4_readLevel FR (0 : Int32) q3.2).bind fun q4 =>
      if q4.1 = 0 then
        some ((0 : Int32), q4.2)
      else
        if (q4.2 1 4) = 0 then
          some ((1 : Int32), q4.2)
        else
          some ((0 : Int32), q4.2)
set_option maxRecDepth 20000 in
set_option maxHeartbeats 4000000 in
theorem ok_X4_readText_bc25_1 {l : Launch} {g : Gam} {b : Nat}    (M : Mem) (z : Int32 × Mem)  (hf : f_X4_readText_bc25_1  M = some z) : V l g (wC b) m_X4_readText 25 [(0, .ref (b + 1))] [] M (some (.int z.1)) z.2 := by
  unfold f_X4_readText_bc25_1 at hf
  refine V_aload_n (Y := m_X4_readText) (pc := 25) 0 dX4_readText_25 rfl ?_
  refine V_iconst (Y := m_X4_readText) (pc := 26) (x := (0 : Int32)) dX4_readText_26 (by decide +kernel) ?_
  refine V_pi (Y := m_X4_readText) (pc := 27) 11 kX4 sC_1 (by decide +kernel) rfl rfl rfl tw_114 dX4_readText_27 ?_
  refine V_aload_n (Y := m_X4_readText) (pc := 30) 0 dX4_readText_30 rfl ?_
  obtain ⟨q1, hq1, hf⟩ := g_bind hf
  refine V_cVv (Y := m_X4_readText) (pc := 31) (As := []) yf_X4_step kX4 sC_1 (by decide +kernel) (ok_X4_step  (mset M 1 11 (0 : Int32)) _  hq1) tw_589 tw_0 tw_587 rfl rfl (Nat.le_of_ble_eq_true rfl) dX4_readText_31 ?_
  refine V_aload_n (Y := m_X4_readText) (pc := 34) 0 dX4_readText_34 rfl ?_
  obtain ⟨q2, hq2, hf⟩ := g_bind hf
  refine V_cVi (Y := m_X4_readText) (pc := 35) (As := []) yf_X4_readKey kX4 sC_1 (by decide +kernel) (ok_X4_readKey  q1.2 _  hq2) tw_608 tw_3 tw_606 rfl rfl (Nat.le_of_ble_eq_true rfl) dX4_readText_35 ?_
  refine V_if_eq (Y := m_X4_readText) (pc := 38) (tgt := 67) dX4_readText_38 (by decide +kernel) hf (fun hf => ?_) (fun hf => ?_)
  · refine V_iconst (Y := m_X4_readText) (pc := 67) (x := (0 : Int32)) dX4_readText_67 (by decide +kernel) ?_
    obtain rfl := Option.some.inj hf
    exact V_zret (Y := m_X4_readText) z01_0 rfl dX4_readText_68
  · refine V_aload_n (Y := m_X4_readText) (pc := 41) 0 dX4_readText_41 rfl ?_
    obtain ⟨q3, hq3, hf⟩ := g_bind hf
    refine V_cVi (Y := m_X4_readText) (pc := 42) (As := []) yf_X4_readVoyage kX4 sC_1 (by decide +kernel) (ok_X4_readVoyage  q2.2 _  hq3) tw_668 tw_5 tw_666 rfl rfl (Nat.le_of_ble_eq_true rfl) dX4_readText_42 ?_
    refine V_if_eq (Y := m_X4_readText) (pc := 45) (tgt := 67) dX4_readText_45 (by decide +kernel) hf (fun hf => ?_) (fun hf => ?_)
    · refine V_iconst (Y := m_X4_readText) (pc := 67) (x := (0 : Int32)) dX4_readText_67 (by decide +kernel) ?_
      obtain rfl := Option.some.inj hf
      exact V_zret (Y := m_X4_readText) z01_0 rfl dX4_readText_68
    · refine V_aload_n (Y := m_X4_readText) (pc := 48) 0 dX4_readText_48 rfl ?_
      refine V_iconst (Y := m_X4_readText) (pc := 49) (x := (0 : Int32)) dX4_readText_49 (by decide +kernel) ?_
      obtain ⟨q4, hq4, hf⟩ := g_bind hf
      refine V_cVi (Y := m_X4_readText) (pc := 50) (As := [.int (0 : Int32)]) (yf_X4_readLevel FR) kX4 sC_1 (by decide +kernel) (ok_X4_readLevel FR (0 : Int32) q3.2 _  hq4) tw_672 tw_6 tw_670 rfl rfl (Nat.le_of_ble_eq_true rfl) dX4_readText_50 ?_
      refine V_if_eq (Y := m_X4_readText) (pc := 53) (tgt := 67) dX4_readText_53 (by decide +kernel) hf (fun hf => ?_) (fun hf => ?_)
      · refine V_iconst (Y := m_X4_readText) (pc := 67) (x := (0 : Int32)) dX4_readText_67 (by decide +kernel) ?_
        obtain rfl := Option.some.inj hf
        exact V_zret (Y := m_X4_readText) z01_0 rfl dX4_readText_68
      · refine V_aload_n (Y := m_X4_readText) (pc := 56) 0 dX4_readText_56 rfl ?_
        refine V_gi (Y := m_X4_readText) (pc := 57) 4 kX4 sC_1 (by decide +kernel) rfl tw_103 dX4_readText_57 ?_
        refine V_if_ne (Y := m_X4_readText) (pc := 60) (tgt := 67) dX4_readText_60 (by decide +kernel) hf (fun hf => ?_) (fun hf => ?_)
        · refine V_iconst (Y := m_X4_readText) (pc := 67) (x := (0 : Int32)) dX4_readText_67 (by decide +kernel) ?_
          obtain rfl := Option.some.inj hf
          exact V_zret (Y := m_X4_readText) z01_0 rfl dX4_readText_68
        · refine V_iconst (Y := m_X4_readText) (pc := 63) (x := (1 : Int32)) dX4_readText_63 (by decide +kernel) ?_
          refine V_goto (Y := m_X4_readText) (pc := 64) (tgt := 68) dX4_readText_64 (by decide +kernel) ?_
          obtain rfl := Option.some.inj hf
          exact V_zret (Y := m_X4_readText) z01_1 rfl dX4_readText_68
def f_X4_readText_b0   (M : Mem) : Option (Int32 × Mem) :=
  f_X4_readText_bc25_1   (mset (mset (mset (mset (mset M 1 3 (0 : Int32)) 1 4 (3 : Int32)) 1 8 (0 : Int32)) 1 9 (0 : Int32)) 1 10 (0 : Int32))
set_option maxRecDepth 20000 in
set_option maxHeartbeats 4000000 in
theorem ok_X4_readText_b0 {l : Launch} {g : Gam} {b : Nat}    (M : Mem) (z : Int32 × Mem)  (hf : f_X4_readText_b0  M = some z) : V l g (wC b) m_X4_readText 0 [(0, .ref (b + 1))] [] M (some (.int z.1)) z.2 := by
  unfold f_X4_readText_b0 at hf
  refine V_aload_n (Y := m_X4_readText) (pc := 0) 0 dX4_readText_0 rfl ?_
  refine V_iconst (Y := m_X4_readText) (pc := 1) (x := (0 : Int32)) dX4_readText_1 (by decide +kernel) ?_
  refine V_pi (Y := m_X4_readText) (pc := 2) 3 kX4 sC_1 (by decide +kernel) rfl rfl rfl tw_102 dX4_readText_2 ?_
  refine V_aload_n (Y := m_X4_readText) (pc := 5) 0 dX4_readText_5 rfl ?_
  refine V_iconst (Y := m_X4_readText) (pc := 6) (x := (3 : Int32)) dX4_readText_6 (by decide +kernel) ?_
  refine V_pi (Y := m_X4_readText) (pc := 7) 4 kX4 sC_1 (by decide +kernel) rfl rfl rfl tw_103 dX4_readText_7 ?_
  refine V_aload_n (Y := m_X4_readText) (pc := 10) 0 dX4_readText_10 rfl ?_
  refine V_iconst (Y := m_X4_readText) (pc := 11) (x := (0 : Int32)) dX4_readText_11 (by decide +kernel) ?_
  refine V_pi (Y := m_X4_readText) (pc := 12) 8 kX4 sC_1 (by decide +kernel) rfl rfl rfl tw_110 dX4_readText_12 ?_
  refine V_aload_n (Y := m_X4_readText) (pc := 15) 0 dX4_readText_15 rfl ?_
  refine V_iconst (Y := m_X4_readText) (pc := 16) (x := (0 : Int32)) dX4_readText_16 (by decide +kernel) ?_
  refine V_pi (Y := m_X4_readText) (pc := 17) 9 kX4 sC_1 (by decide +kernel) rfl rfl rfl tw_112 dX4_readText_17 ?_
  refine V_aload_n (Y := m_X4_readText) (pc := 20) 0 dX4_readText_20 rfl ?_
  refine V_iconst (Y := m_X4_readText) (pc := 21) (x := (0 : Int32)) dX4_readText_21 (by decide +kernel) ?_
  refine V_pi (Y := m_X4_readText) (pc := 22) 10 kX4 sC_1 (by decide +kernel) rfl rfl rfl tw_113 dX4_readText_22 ?_
  exact V_sub [0] rfl (ok_X4_readText_bc25_1   (mset (mset (mset (mset (mset M 1 3 (0 : Int32)) 1 4 (3 : Int32)) 1 8 (0 : Int32)) 1 9 (0 : Int32)) 1 10 (0 : Int32)) z  hf)
def f_X4_readText  (M : Mem) : Option (Int32 × Mem) := f_X4_readText_b0  M
set_option maxRecDepth 20000 in
set_option maxHeartbeats 4000000 in
theorem ok_X4_readText {l : Launch} {g : Gam} {b : Nat} : ∀  (M : Mem) (z : Int32 × Mem), f_X4_readText  M = some z → Cn l g (wC b) m_X4_readText [.ref (b + 1)] M (some (.int z.1)) z.2 := fun  M z  hf => Cn_of (by decide +kernel) (Nat.le_of_ble_eq_true rfl) (V_sub [0] rfl (ok_X4_readText_b0  M z  hf))

abbrev m_X9_isUnder : Mth := (yX9_isUnder, cX9_isUnder, 2, some .boolean, 1)
theorem yf_X9_isUnder : YF m_X9_isUnder 2 := ⟨tw_556, tw_65, by decide +kernel, by decide +kernel⟩
def f_X9_isUnder_b18   (M : Mem) : Option (Int32 × Mem) :=
  some ((1 : Int32), M)
set_option maxRecDepth 20000 in
set_option maxHeartbeats 4000000 in
theorem ok_X9_isUnder_b18 {l : Launch} {g : Gam} {b : Nat}    (M : Mem) (z : Int32 × Mem)  (hf : f_X9_isUnder_b18  M = some z) : V l g (wC b) m_X9_isUnder 18 [] [] M (some (.int z.1)) z.2 := by
  unfold f_X9_isUnder_b18 at hf
  refine V_iconst (Y := m_X9_isUnder) (pc := 18) (x := (1 : Int32)) dX9_isUnder_18 (by decide +kernel) ?_
  refine V_goto (Y := m_X9_isUnder) (pc := 19) (tgt := 23) dX9_isUnder_19 (by decide +kernel) ?_
  obtain rfl := Option.some.inj hf
  exact V_zret (Y := m_X9_isUnder) z01_1 rfl dX9_isUnder_23
def f_X9_isUnder_b0  (x0 : Int32) (x1 : Int32) (M : Mem) : Option (Int32 × Mem) :=
  if x0 = x1 then
    f_X9_isUnder_b18   M
  else
    if x1 = 0 then
      f_X9_isUnder_b18   M
    else
      if ixb x0 8 = true then
      if (aboveT (ix x0)) = x1 then
        f_X9_isUnder_b18   M
      else
        some ((0 : Int32), M)
      else none
set_option maxRecDepth 20000 in
set_option maxHeartbeats 4000000 in
theorem ok_X9_isUnder_b0 {l : Launch} {g : Gam} {b : Nat}   (x0 : Int32) (x1 : Int32) (M : Mem) (z : Int32 × Mem)  (hf : f_X9_isUnder_b0 x0 x1 M = some z) : V l g (wC b) m_X9_isUnder 0 [(0, .int x0), (1, .int x1)] [] M (some (.int z.1)) z.2 := by
  unfold f_X9_isUnder_b0 at hf
  refine V_iload_n (Y := m_X9_isUnder) (pc := 0) 0 dX9_isUnder_0 rfl ?_
  refine V_iload_n (Y := m_X9_isUnder) (pc := 1) 1 dX9_isUnder_1 rfl ?_
  refine V_icmp_eq (Y := m_X9_isUnder) (pc := 2) (tgt := 18) dX9_isUnder_2 (by decide +kernel) hf (fun hf => ?_) (fun hf => ?_)
  · exact V_sub [] rfl (ok_X9_isUnder_b18   M z  hf)
  · refine V_iload_n (Y := m_X9_isUnder) (pc := 5) 1 dX9_isUnder_5 rfl ?_
    refine V_if_eq (Y := m_X9_isUnder) (pc := 6) (tgt := 18) dX9_isUnder_6 (by decide +kernel) hf (fun hf => ?_) (fun hf => ?_)
    · exact V_sub [] rfl (ok_X9_isUnder_b18   M z  hf)
    · refine V_gsA (Y := m_X9_isUnder) (pc := 9) tw_470 dX9_isUnder_9 ?_
      refine V_iload_n (Y := m_X9_isUnder) (pc := 12) 0 dX9_isUnder_12 rfl ?_
      obtain ⟨hi1, hf⟩ := g_if hf
      refine V_ialdA (Y := m_X9_isUnder) (pc := 13) hi1 dX9_isUnder_13 ?_
      refine V_iload_n (Y := m_X9_isUnder) (pc := 14) 1 dX9_isUnder_14 rfl ?_
      refine V_icmp_ne (Y := m_X9_isUnder) (pc := 15) (tgt := 22) dX9_isUnder_15 (by decide +kernel) hf (fun hf => ?_) (fun hf => ?_)
      · refine V_iconst (Y := m_X9_isUnder) (pc := 22) (x := (0 : Int32)) dX9_isUnder_22 (by decide +kernel) ?_
        obtain rfl := Option.some.inj hf
        exact V_zret (Y := m_X9_isUnder) z01_0 rfl dX9_isUnder_23
      · exact V_sub [] rfl (ok_X9_isUnder_b18   M z  hf)
def f_X9_isUnder (x0 : Int32) (x1 : Int32) (M : Mem) : Option (Int32 × Mem) := f_X9_isUnder_b0 x0 x1 M
set_option maxRecDepth 20000 in
set_option maxHeartbeats 4000000 in
theorem ok_X9_isUnder {l : Launch} {g : Gam} {b : Nat} : ∀ (x0 : Int32) (x1 : Int32) (M : Mem) (z : Int32 × Mem), f_X9_isUnder x0 x1 M = some z → Cn l g (wC b) m_X9_isUnder [.int x0, .int x1] M (some (.int z.1)) z.2 := fun x0 x1 M z  hf => Cn_of (by decide +kernel) (Nat.le_of_ble_eq_true rfl) (V_sub [0, 1] rfl (ok_X9_isUnder_b0 x0 x1 M z  hf))

abbrev m_X5_isFixOf : Mth := (yX5_isFixOf, cX5_isFixOf, 2, some .boolean, 2)
theorem yf_X5_isFixOf : YF m_X5_isFixOf 2 := ⟨tw_863, tw_69, by decide +kernel, by decide +kernel⟩
def f_X5_isFixOf_b0  (a0 : Nat) (x1 : Int32) (M : Mem) : Option (Int32 × Mem) :=
  (f_X9_isUnder (M a0 0) (3 : Int32) M).bind fun q1 =>
  if q1.1 = 0 then
    some ((0 : Int32), q1.2)
  else
    if (q1.2 a0 1) = x1 then
      some ((1 : Int32), q1.2)
    else
      some ((0 : Int32), q1.2)
set_option maxRecDepth 20000 in
set_option maxHeartbeats 4000000 in
theorem ok_X5_isFixOf_b0 {l : Launch} {g : Gam} {b : Nat}   (a0 : Nat) (x1 : Int32) (M : Mem) (z : Int32 × Mem) (ha0 : shC[a0]? = some (1, 2)) (hf : f_X5_isFixOf_b0 a0 x1 M = some z) : V l g (wC b) m_X5_isFixOf 0 [(0, .ref (b + a0)), (1, .int x1)] [] M (some (.int z.1)) z.2 := by
  unfold f_X5_isFixOf_b0 at hf
  refine V_aload_n (Y := m_X5_isFixOf) (pc := 0) 0 dX5_isFixOf_0 rfl ?_
  refine V_gi (Y := m_X5_isFixOf) (pc := 1) 0 kX2 ha0 (by decide +kernel) rfl tw_281 dX5_isFixOf_1 ?_
  refine V_iconst (Y := m_X5_isFixOf) (pc := 4) (x := (3 : Int32)) dX5_isFixOf_4 (by decide +kernel) ?_
  obtain ⟨q1, hq1, hf⟩ := g_bind hf
  refine V_cSNi (Y := m_X5_isFixOf) (pc := 5) (As := [.int (M a0 0), .int (3 : Int32)]) yf_X9_isUnder (by decide +kernel) (ok_X9_isUnder (M a0 0) (3 : Int32) M _  hq1) tw_555 nw_864 rfl rfl (Nat.le_of_ble_eq_true rfl) dX5_isFixOf_5 ?_
  refine V_if_eq (Y := m_X5_isFixOf) (pc := 8) (tgt := 23) dX5_isFixOf_8 (by decide +kernel) hf (fun hf => ?_) (fun hf => ?_)
  · refine V_iconst (Y := m_X5_isFixOf) (pc := 23) (x := (0 : Int32)) dX5_isFixOf_23 (by decide +kernel) ?_
    obtain rfl := Option.some.inj hf
    exact V_zret (Y := m_X5_isFixOf) z01_0 rfl dX5_isFixOf_24
  · refine V_aload_n (Y := m_X5_isFixOf) (pc := 11) 0 dX5_isFixOf_11 rfl ?_
    refine V_gi (Y := m_X5_isFixOf) (pc := 12) 1 kX2 ha0 (by decide +kernel) rfl tw_287 dX5_isFixOf_12 ?_
    refine V_iload_n (Y := m_X5_isFixOf) (pc := 15) 1 dX5_isFixOf_15 rfl ?_
    refine V_icmp_ne (Y := m_X5_isFixOf) (pc := 16) (tgt := 23) dX5_isFixOf_16 (by decide +kernel) hf (fun hf => ?_) (fun hf => ?_)
    · refine V_iconst (Y := m_X5_isFixOf) (pc := 23) (x := (0 : Int32)) dX5_isFixOf_23 (by decide +kernel) ?_
      obtain rfl := Option.some.inj hf
      exact V_zret (Y := m_X5_isFixOf) z01_0 rfl dX5_isFixOf_24
    · refine V_iconst (Y := m_X5_isFixOf) (pc := 19) (x := (1 : Int32)) dX5_isFixOf_19 (by decide +kernel) ?_
      refine V_goto (Y := m_X5_isFixOf) (pc := 20) (tgt := 24) dX5_isFixOf_20 (by decide +kernel) ?_
      obtain rfl := Option.some.inj hf
      exact V_zret (Y := m_X5_isFixOf) z01_1 rfl dX5_isFixOf_24
def f_X5_isFixOf (a0 : Nat) (x1 : Int32) (M : Mem) : Option (Int32 × Mem) := f_X5_isFixOf_b0 a0 x1 M
set_option maxRecDepth 20000 in
set_option maxHeartbeats 4000000 in
theorem ok_X5_isFixOf {l : Launch} {g : Gam} {b : Nat} : ∀ (a0 : Nat) (x1 : Int32) (M : Mem) (z : Int32 × Mem), shC[a0]? = some (1, 2) → f_X5_isFixOf a0 x1 M = some z → Cn l g (wC b) m_X5_isFixOf [.ref (b + a0), .int x1] M (some (.int z.1)) z.2 := fun a0 x1 M z ha0 hf => Cn_of (by decide +kernel) (Nat.le_of_ble_eq_true rfl) (V_sub [0, 1] rfl (ok_X5_isFixOf_b0 a0 x1 M z ha0 hf))

abbrev m_X5_prepare : Mth := (yX5_prepare, cX5_prepare, 5, none, 6)
theorem yf_X5_prepare : YF m_X5_prepare 2 := ⟨tw_857, tw_69, by decide +kernel, by decide +kernel⟩
def f_X5_prepare_b84 (k7 : Nat → Int32 → Int32 → Mem → Option (Int32 × Mem)) (a1 : Nat) (x2 : Int32) (x3 : Int32) (M : Mem) : Option (Int32 × Mem) :=
  k7 a1 x2 (x3 + (1 : Int32)) M
set_option maxRecDepth 20000 in
set_option maxHeartbeats 4000000 in
theorem ok_X5_prepare_b84 {l : Launch} {g : Gam} {b : Nat} (k7 : Nat → Int32 → Int32 → Mem → Option (Int32 × Mem)) (hk7 : ∀ (a1 : Nat) (x2 : Int32) (x3 : Int32) (M : Mem) (z : Int32 × Mem), shC[a1]? = some (1, 0) → k7 a1 x2 x3 M = some z → V l g (wC b) m_X5_prepare 7 [(0, .ref (b + 9)), (1, .ref (b + a1)), (2, .int x2), (3, .int x3)] [] M none z.2) (a1 : Nat) (x2 : Int32) (x3 : Int32) (M : Mem) (z : Int32 × Mem) (ha1 : shC[a1]? = some (1, 0)) (hf : f_X5_prepare_b84 k7 a1 x2 x3 M = some z) : V l g (wC b) m_X5_prepare 84 [(0, .ref (b + 9)), (1, .ref (b + a1)), (2, .int x2), (3, .int x3)] [] M none z.2 := by
  unfold f_X5_prepare_b84 at hf
  refine V_iinc (Y := m_X5_prepare) (pc := 84) (y := (x3 + (1 : Int32))) 3 [(3, .int (x3 + (1 : Int32))), (0, .ref (b + 9)), (1, .ref (b + a1)), (2, .int x2)] dX5_prepare_84 rfl rfl (by decide +kernel) rfl ?_
  refine V_goto (Y := m_X5_prepare) (pc := 87) (tgt := 7) dX5_prepare_87 (by decide +kernel) ?_
  exact V_sub [1, 2, 3, 0] rfl (hk7 a1 x2 (x3 + (1 : Int32)) M z ha1 hf)
def f_X5_prepare_b7  : Nat → Nat → Int32 → Int32 → Mem → Option (Int32 × Mem)
  | 0, _, _, _, _ => none
  | n + 1, a1, x2, x3, M =>
    if (M a1 9) ≤ x3 then
      some (0, M)
    else
      if ixb x3 24 = true then
      (f_X0_lawFor a1 (rfC (rfC a1 0) (ix x3)) (2 : Int32) (0 : Int32) M).bind fun q2 =>
      if ixb x3 24 = true then
      (f_X0_saysOf a1 (rfC (rfC a1 0) (ix x3)) (mset q2.2 10 (ix x3) q2.1)).bind fun q4 =>
      if ixb x3 24 = true then
      if ((mset q4.2 11 (ix x3) q4.1) (rfC (rfC a1 0) (ix x3)) 5) = (-1000000005 : Int32) then
        f_X5_prepare_b84 (f_X5_prepare_b7  n) a1 x2 x3 (mset q4.2 11 (ix x3) q4.1)
      else
        (f_X5_isFixOf (rfC (rfC a1 0) (ix x3)) x2 (mset q4.2 11 (ix x3) q4.1)).bind fun q6 =>
        if q6.1 = 0 then
          f_X5_prepare_b84 (f_X5_prepare_b7  n) a1 x2 x3 q6.2
        else
          f_X5_prepare_b84 (f_X5_prepare_b7  n) a1 x2 x3 (mset q6.2 9 7 ((q6.2 9 7) ||| ((1 : Int32) <<< ((q6.2 (rfC (rfC a1 0) (ix x3)) 5) &&& 31))))
      else none
      else none
      else none
set_option maxRecDepth 20000 in
set_option maxHeartbeats 4000000 in
theorem ok_X5_prepare_b7 {l : Launch} {g : Gam} {b : Nat}   : ∀ (n : Nat) (a1 : Nat) (x2 : Int32) (x3 : Int32) (M : Mem) (z : Int32 × Mem), (ha1 : shC[a1]? = some (1, 0)) → f_X5_prepare_b7  n a1 x2 x3 M = some z → V l g (wC b) m_X5_prepare 7 [(0, .ref (b + 9)), (1, .ref (b + a1)), (2, .int x2), (3, .int x3)] [] M none z.2 := by
  intro n
  induction n with
  | zero =>
    intro a1 x2 x3 M z ha1 hf
    cases hf
  | succ n ih =>
    intro a1 x2 x3 M z ha1 hf
    rw [f_X5_prepare_b7] at hf
    refine V_iload_n (Y := m_X5_prepare) (pc := 7) 3 dX5_prepare_7 rfl ?_
    refine V_aload_n (Y := m_X5_prepare) (pc := 8) 1 dX5_prepare_8 rfl ?_
    refine V_gi (Y := m_X5_prepare) (pc := 9) 9 kX0 ha1 (by decide +kernel) rfl tw_353 dX5_prepare_9 ?_
    refine V_icmp_ge (Y := m_X5_prepare) (pc := 12) (tgt := 90) dX5_prepare_12 (by decide +kernel) hf (fun hf => ?_) (fun hf => ?_)
    · obtain rfl := Option.some.inj hf
      exact V_vret (Y := m_X5_prepare) rfl dX5_prepare_90
    · refine V_aload_n (Y := m_X5_prepare) (pc := 15) 1 dX5_prepare_15 rfl ?_
      refine V_gr (Y := m_X5_prepare) (pc := 16) 0 kX0 ha1 (by decide +kernel) rfl tw_331 dX5_prepare_16 ?_
      refine V_iload_n (Y := m_X5_prepare) (pc := 19) 3 dX5_prepare_19 rfl ?_
      obtain ⟨hi1, hf⟩ := g_if hf
      refine V_aald (Y := m_X5_prepare) (pc := 20) 1 rfl (wtC.1 _ _ ha1 0 _ rfl) hi1 dX5_prepare_20 ?_
      refine V_astore (Y := m_X5_prepare) (pc := 21) [(4, .ref (b + (rfC (rfC a1 0) (ix x3)))), (0, .ref (b + 9)), (1, .ref (b + a1)), (2, .int x2), (3, .int x3)] dX5_prepare_21 (by decide +kernel) rfl ?_
      refine V_aload_n (Y := m_X5_prepare) (pc := 23) 1 dX5_prepare_23 rfl ?_
      refine V_grL (Y := m_X5_prepare) (pc := 24) (x := 10) 3 kX5 sC_9 (by decide +kernel) rfl rfl tw_214 dX5_prepare_24 ?_
      refine V_iload_n (Y := m_X5_prepare) (pc := 27) 4 dX5_prepare_27 rfl ?_
      refine V_aload_n (Y := m_X5_prepare) (pc := 28) 2 dX5_prepare_28 rfl ?_
      refine V_aload (Y := m_X5_prepare) (pc := 29) 0 dX5_prepare_29 rfl ?_
      refine V_iconst (Y := m_X5_prepare) (pc := 31) (x := (2 : Int32)) dX5_prepare_31 (by decide +kernel) ?_
      refine V_iconst (Y := m_X5_prepare) (pc := 32) (x := (0 : Int32)) dX5_prepare_32 (by decide +kernel) ?_
      obtain ⟨q2, hq2, hf⟩ := g_bind hf
      refine V_cVi (Y := m_X5_prepare) (pc := 33) (As := [.ref (b + (rfC (rfC a1 0) (ix x3))), .int (2 : Int32), .int (0 : Int32)]) yf_X0_lawFor kX0 ha1 (by decide +kernel) (ok_X0_lawFor a1 (rfC (rfC a1 0) (ix x3)) (2 : Int32) (0 : Int32) M _ ha1 (wtC.2 _ _ _ (wtC.1 _ _ ha1 0 _ rfl) _ (ixb_lt hi1)) hq2) tw_506 tw_507 tw_858 rfl rfl (Nat.le_of_ble_eq_true rfl) dX5_prepare_33 ?_
      obtain ⟨hi3, hf⟩ := g_if hf
      refine V_iast (Y := m_X5_prepare) (pc := 36) sC_10 hi3 dX5_prepare_36 ?_
      refine V_aload_n (Y := m_X5_prepare) (pc := 37) 1 dX5_prepare_37 rfl ?_
      refine V_grL (Y := m_X5_prepare) (pc := 38) (x := 11) 4 kX5 sC_9 (by decide +kernel) rfl rfl tw_215 dX5_prepare_38 ?_
      refine V_iload_n (Y := m_X5_prepare) (pc := 41) 4 dX5_prepare_41 rfl ?_
      refine V_aload_n (Y := m_X5_prepare) (pc := 42) 2 dX5_prepare_42 rfl ?_
      refine V_aload (Y := m_X5_prepare) (pc := 43) 0 dX5_prepare_43 rfl ?_
      obtain ⟨q4, hq4, hf⟩ := g_bind hf
      refine V_cVi (Y := m_X5_prepare) (pc := 45) (As := [.ref (b + (rfC (rfC a1 0) (ix x3)))]) yf_X0_saysOf kX0 ha1 (by decide +kernel) (ok_X0_saysOf a1 (rfC (rfC a1 0) (ix x3)) (mset q2.2 10 (ix x3) q2.1) _ ha1 (wtC.2 _ _ _ (wtC.1 _ _ ha1 0 _ rfl) _ (ixb_lt hi1)) hq4) tw_498 tw_499 tw_859 rfl rfl (Nat.le_of_ble_eq_true rfl) dX5_prepare_45 ?_
      obtain ⟨hi5, hf⟩ := g_if hf
      refine V_iast (Y := m_X5_prepare) (pc := 48) sC_11 hi5 dX5_prepare_48 ?_
      refine V_aload (Y := m_X5_prepare) (pc := 49) 0 dX5_prepare_49 rfl ?_
      refine V_gi (Y := m_X5_prepare) (pc := 51) 5 kX2 (wtC.2 _ _ _ (wtC.1 _ _ ha1 0 _ rfl) _ (ixb_lt hi1)) (by decide +kernel) rfl tw_307 dX5_prepare_51 ?_
      refine V_ldc (Y := m_X5_prepare) (pc := 54) (x := (-1000000005 : Int32)) dX5_prepare_54 tw_860 ?_
      refine V_icmp_eq (Y := m_X5_prepare) (pc := 56) (tgt := 84) dX5_prepare_56 (by decide +kernel) hf (fun hf => ?_) (fun hf => ?_)
      · exact V_sub [1, 2, 3, 4] rfl (ok_X5_prepare_b84 (f_X5_prepare_b7  n) ih a1 x2 x3 (mset q4.2 11 (ix x3) q4.1) z ha1 hf)
      · refine V_aload (Y := m_X5_prepare) (pc := 59) 0 dX5_prepare_59 rfl ?_
        refine V_iload_n (Y := m_X5_prepare) (pc := 61) 3 dX5_prepare_61 rfl ?_
        obtain ⟨q6, hq6, hf⟩ := g_bind hf
        refine V_cSi (Y := m_X5_prepare) (pc := 62) (As := [.ref (b + (rfC (rfC a1 0) (ix x3))), .int x2]) yf_X5_isFixOf (by decide +kernel) (ok_X5_isFixOf (rfC (rfC a1 0) (ix x3)) x2 (mset q4.2 11 (ix x3) q4.1) _ (wtC.2 _ _ _ (wtC.1 _ _ ha1 0 _ rfl) _ (ixb_lt hi1)) hq6) tw_862 tw_861 rfl rfl (Nat.le_of_ble_eq_true rfl) dX5_prepare_62 ?_
        refine V_if_eq (Y := m_X5_prepare) (pc := 65) (tgt := 84) dX5_prepare_65 (by decide +kernel) hf (fun hf => ?_) (fun hf => ?_)
        · exact V_sub [1, 2, 3, 4] rfl (ok_X5_prepare_b84 (f_X5_prepare_b7  n) ih a1 x2 x3 q6.2 z ha1 hf)
        · refine V_aload_n (Y := m_X5_prepare) (pc := 68) 1 dX5_prepare_68 rfl ?_
          refine V_dup (Y := m_X5_prepare) (pc := 69) dX5_prepare_69 rfl ?_
          refine V_gi (Y := m_X5_prepare) (pc := 70) 7 kX5 sC_9 (by decide +kernel) rfl tw_218 dX5_prepare_70 ?_
          refine V_iconst (Y := m_X5_prepare) (pc := 73) (x := (1 : Int32)) dX5_prepare_73 (by decide +kernel) ?_
          refine V_aload (Y := m_X5_prepare) (pc := 74) 0 dX5_prepare_74 rfl ?_
          refine V_gi (Y := m_X5_prepare) (pc := 76) 5 kX2 (wtC.2 _ _ _ (wtC.1 _ _ ha1 0 _ rfl) _ (ixb_lt hi1)) (by decide +kernel) rfl tw_307 dX5_prepare_76 ?_
          refine V_ishl (Y := m_X5_prepare) (pc := 79) dX5_prepare_79 ?_
          refine V_ior (Y := m_X5_prepare) (pc := 80) dX5_prepare_80 ?_
          refine V_pi (Y := m_X5_prepare) (pc := 81) 7 kX5 sC_9 (by decide +kernel) rfl rfl rfl tw_218 dX5_prepare_81 ?_
          exact V_sub [1, 2, 3, 4] rfl (ok_X5_prepare_b84 (f_X5_prepare_b7  n) ih a1 x2 x3 (mset q6.2 9 7 ((q6.2 9 7) ||| ((1 : Int32) <<< ((q6.2 (rfC (rfC a1 0) (ix x3)) 5) &&& 31)))) z ha1 hf)
def f_X5_prepare_b0  (a1 : Nat) (x2 : Int32) (M : Mem) : Option (Int32 × Mem) :=
  f_X5_prepare_b7  FU a1 x2 (0 : Int32) (mset M 9 7 (0 : Int32))
set_option maxRecDepth 20000 in
set_option maxHeartbeats 4000000 in
theorem ok_X5_prepare_b0 {l : Launch} {g : Gam} {b : Nat}   (a1 : Nat) (x2 : Int32) (M : Mem) (z : Int32 × Mem) (ha1 : shC[a1]? = some (1, 0)) (hf : f_X5_prepare_b0 a1 x2 M = some z) : V l g (wC b) m_X5_prepare 0 [(0, .ref (b + 9)), (1, .ref (b + a1)), (2, .int x2)] [] M none z.2 := by
  unfold f_X5_prepare_b0 at hf
  refine V_aload_n (Y := m_X5_prepare) (pc := 0) 0 dX5_prepare_0 rfl ?_
  refine V_iconst (Y := m_X5_prepare) (pc := 1) (x := (0 : Int32)) dX5_prepare_1 (by decide +kernel) ?_
  refine V_pi (Y := m_X5_prepare) (pc := 2) 7 kX5 sC_9 (by decide +kernel) rfl rfl rfl tw_218 dX5_prepare_2 ?_
  refine V_iconst (Y := m_X5_prepare) (pc := 5) (x := (0 : Int32)) dX5_prepare_5 (by decide +kernel) ?_
  refine V_istore_n (Y := m_X5_prepare) (pc := 6) [(3, .int (0 : Int32)), (0, .ref (b + 9)), (1, .ref (b + a1)), (2, .int x2)] dX5_prepare_6 (by decide +kernel) rfl ?_
  exact V_sub [1, 2, 3, 0] rfl (ok_X5_prepare_b7  FU a1 x2 (0 : Int32) (mset M 9 7 (0 : Int32)) z ha1 hf)
def f_X5_prepare (a1 : Nat) (x2 : Int32) (M : Mem) : Option (Int32 × Mem) := f_X5_prepare_b0 a1 x2 M
set_option maxRecDepth 20000 in
set_option maxHeartbeats 4000000 in
theorem ok_X5_prepare {l : Launch} {g : Gam} {b : Nat} : ∀ (a1 : Nat) (x2 : Int32) (M : Mem) (z : Int32 × Mem), shC[a1]? = some (1, 0) → f_X5_prepare a1 x2 M = some z → Cn l g (wC b) m_X5_prepare [.ref (b + 9), .ref (b + a1), .int x2] M none z.2 := fun a1 x2 M z ha1 hf => Cn_of (by decide +kernel) (Nat.le_of_ble_eq_true rfl) (V_sub [0, 1, 2] rfl (ok_X5_prepare_b0 a1 x2 M z ha1 hf))

abbrev m_X5_allHold : Mth := (yX5_allHold, cX5_allHold, 9, some .boolean, 3)
theorem yf_X5_allHold : YF m_X5_allHold 4 := ⟨tw_872, tw_69, by decide +kernel, by decide +kernel⟩
def f_X5_allHold_b230 (k192 : Int32 → Mem → Option (Int32 × Mem)) (x5 : Int32) (M : Mem) : Option (Int32 × Mem) :=
  k192 (x5 + (1 : Int32)) M
set_option maxRecDepth 20000 in
set_option maxHeartbeats 4000000 in
theorem ok_X5_allHold_b230 {l : Launch} {g : Gam} {b : Nat} (k192 : Int32 → Mem → Option (Int32 × Mem)) (hk192 : ∀ (x5 : Int32) (M : Mem) (z : Int32 × Mem), k192 x5 M = some z → V l g (wC b) m_X5_allHold 192 [(0, .ref (b + 9)), (5, .int x5)] [] M (some (.int z.1)) z.2) (x5 : Int32) (M : Mem) (z : Int32 × Mem)  (hf : f_X5_allHold_b230 k192 x5 M = some z) : V l g (wC b) m_X5_allHold 230 [(0, .ref (b + 9)), (5, .int x5)] [] M (some (.int z.1)) z.2 := by
  unfold f_X5_allHold_b230 at hf
  refine V_iinc (Y := m_X5_allHold) (pc := 230) (y := (x5 + (1 : Int32))) 1 [(5, .int (x5 + (1 : Int32))), (0, .ref (b + 9))] dX5_allHold_230 rfl rfl (by decide +kernel) rfl ?_
  refine V_goto (Y := m_X5_allHold) (pc := 233) (tgt := 192) dX5_allHold_233 (by decide +kernel) ?_
  exact V_sub [1, 0] rfl (hk192 (x5 + (1 : Int32)) M z  hf)
def f_X5_allHold_b192  : Nat → Int32 → Mem → Option (Int32 × Mem)
  | 0, _, _ => none
  | n + 1, x5, M =>
    if (9 : Int32) ≤ x5 then
      some ((1 : Int32), M)
    else
      if ((M 9 7) &&& ((1 : Int32) <<< (x5 &&& 31))) = 0 then
        f_X5_allHold_b230 (f_X5_allHold_b192  n) x5 M
      else
        if ixb x5 9 = true then
        if ixb x5 9 = true then
        if (M 12 (ix x5)) ≤ (M 13 (ix x5)) then
          f_X5_allHold_b230 (f_X5_allHold_b192  n) x5 M
        else
          some ((0 : Int32), M)
        else none
        else none
set_option maxRecDepth 20000 in
set_option maxHeartbeats 4000000 in
theorem ok_X5_allHold_b192 {l : Launch} {g : Gam} {b : Nat}   : ∀ (n : Nat) (x5 : Int32) (M : Mem) (z : Int32 × Mem), f_X5_allHold_b192  n x5 M = some z → V l g (wC b) m_X5_allHold 192 [(0, .ref (b + 9)), (5, .int x5)] [] M (some (.int z.1)) z.2 := by
  intro n
  induction n with
  | zero =>
    intro x5 M z  hf
    cases hf
  | succ n ih =>
    intro x5 M z  hf
    rw [f_X5_allHold_b192] at hf
    refine V_iload (Y := m_X5_allHold) (pc := 192) 1 dX5_allHold_192 rfl ?_
    refine V_bipush (Y := m_X5_allHold) (pc := 194) (x := (9 : Int32)) dX5_allHold_194 (by decide +kernel) ?_
    refine V_icmp_ge (Y := m_X5_allHold) (pc := 196) (tgt := 236) dX5_allHold_196 (by decide +kernel) hf (fun hf => ?_) (fun hf => ?_)
    · refine V_iconst (Y := m_X5_allHold) (pc := 236) (x := (1 : Int32)) dX5_allHold_236 (by decide +kernel) ?_
      obtain rfl := Option.some.inj hf
      exact V_zret (Y := m_X5_allHold) z01_1 rfl dX5_allHold_237
    · refine V_aload_n (Y := m_X5_allHold) (pc := 199) 0 dX5_allHold_199 rfl ?_
      refine V_gi (Y := m_X5_allHold) (pc := 200) 7 kX5 sC_9 (by decide +kernel) rfl tw_218 dX5_allHold_200 ?_
      refine V_iconst (Y := m_X5_allHold) (pc := 203) (x := (1 : Int32)) dX5_allHold_203 (by decide +kernel) ?_
      refine V_iload (Y := m_X5_allHold) (pc := 204) 1 dX5_allHold_204 rfl ?_
      refine V_ishl (Y := m_X5_allHold) (pc := 206) dX5_allHold_206 ?_
      refine V_iand (Y := m_X5_allHold) (pc := 207) dX5_allHold_207 ?_
      refine V_if_eq (Y := m_X5_allHold) (pc := 208) (tgt := 230) dX5_allHold_208 (by decide +kernel) hf (fun hf => ?_) (fun hf => ?_)
      · exact V_sub [0, 1] rfl (ok_X5_allHold_b230 (f_X5_allHold_b192  n) ih x5 M z  hf)
      · refine V_aload_n (Y := m_X5_allHold) (pc := 211) 0 dX5_allHold_211 rfl ?_
        refine V_grL (Y := m_X5_allHold) (pc := 212) (x := 12) 5 kX5 sC_9 (by decide +kernel) rfl rfl tw_216 dX5_allHold_212 ?_
        refine V_iload (Y := m_X5_allHold) (pc := 215) 1 dX5_allHold_215 rfl ?_
        obtain ⟨hi1, hf⟩ := g_if hf
        refine V_iald (Y := m_X5_allHold) (pc := 217) sC_12 hi1 dX5_allHold_217 ?_
        refine V_aload_n (Y := m_X5_allHold) (pc := 218) 0 dX5_allHold_218 rfl ?_
        refine V_grL (Y := m_X5_allHold) (pc := 219) (x := 13) 6 kX5 sC_9 (by decide +kernel) rfl rfl tw_217 dX5_allHold_219 ?_
        refine V_iload (Y := m_X5_allHold) (pc := 222) 1 dX5_allHold_222 rfl ?_
        obtain ⟨hi2, hf⟩ := g_if hf
        refine V_iald (Y := m_X5_allHold) (pc := 224) sC_13 hi2 dX5_allHold_224 ?_
        refine V_icmp_le (Y := m_X5_allHold) (pc := 225) (tgt := 230) dX5_allHold_225 (by decide +kernel) hf (fun hf => ?_) (fun hf => ?_)
        · exact V_sub [0, 1] rfl (ok_X5_allHold_b230 (f_X5_allHold_b192  n) ih x5 M z  hf)
        · refine V_iconst (Y := m_X5_allHold) (pc := 228) (x := (0 : Int32)) dX5_allHold_228 (by decide +kernel) ?_
          obtain rfl := Option.some.inj hf
          exact V_zret (Y := m_X5_allHold) z01_0 rfl dX5_allHold_229
def f_X5_allHold_b189   (M : Mem) : Option (Int32 × Mem) :=
  f_X5_allHold_b192  FU (0 : Int32) M
set_option maxRecDepth 20000 in
set_option maxHeartbeats 4000000 in
theorem ok_X5_allHold_b189 {l : Launch} {g : Gam} {b : Nat}    (M : Mem) (z : Int32 × Mem)  (hf : f_X5_allHold_b189  M = some z) : V l g (wC b) m_X5_allHold 189 [(0, .ref (b + 9))] [] M (some (.int z.1)) z.2 := by
  unfold f_X5_allHold_b189 at hf
  refine V_iconst (Y := m_X5_allHold) (pc := 189) (x := (0 : Int32)) dX5_allHold_189 (by decide +kernel) ?_
  refine V_istore (Y := m_X5_allHold) (pc := 190) [(5, .int (0 : Int32)), (0, .ref (b + 9))] dX5_allHold_190 (by decide +kernel) rfl ?_
  exact V_sub [1, 0] rfl (ok_X5_allHold_b192  FU (0 : Int32) M z  hf)
def f_X5_allHold_b183 (k37 : Nat → Int32 → Int32 → Int32 → Int32 → Mem → Option (Int32 × Mem)) (a1 : Nat) (x2 : Int32) (x3 : Int32) (x4 : Int32) (x5 : Int32) (M : Mem) : Option (Int32 × Mem) :=
  k37 a1 x2 x3 x4 (x5 + (1 : Int32)) M
set_option maxRecDepth 20000 in
set_option maxHeartbeats 4000000 in
theorem ok_X5_allHold_b183 {l : Launch} {g : Gam} {b : Nat} (k37 : Nat → Int32 → Int32 → Int32 → Int32 → Mem → Option (Int32 × Mem)) (hk37 : ∀ (a1 : Nat) (x2 : Int32) (x3 : Int32) (x4 : Int32) (x5 : Int32) (M : Mem) (z : Int32 × Mem), shC[a1]? = some (1, 0) → k37 a1 x2 x3 x4 x5 M = some z → V l g (wC b) m_X5_allHold 37 [(0, .ref (b + 9)), (1, .ref (b + a1)), (2, .int x2), (3, .int x3), (4, .int x4), (5, .int x5)] [] M (some (.int z.1)) z.2) (a1 : Nat) (x2 : Int32) (x3 : Int32) (x4 : Int32) (x5 : Int32) (M : Mem) (z : Int32 × Mem) (ha1 : shC[a1]? = some (1, 0)) (hf : f_X5_allHold_b183 k37 a1 x2 x3 x4 x5 M = some z) : V l g (wC b) m_X5_allHold 183 [(0, .ref (b + 9)), (1, .ref (b + a1)), (2, .int x2), (3, .int x3), (4, .int x4), (5, .int x5)] [] M (some (.int z.1)) z.2 := by
  unfold f_X5_allHold_b183 at hf
  refine V_iinc (Y := m_X5_allHold) (pc := 183) (y := (x5 + (1 : Int32))) 5 [(5, .int (x5 + (1 : Int32))), (0, .ref (b + 9)), (1, .ref (b + a1)), (2, .int x2), (3, .int x3), (4, .int x4)] dX5_allHold_183 rfl rfl (by decide +kernel) rfl ?_
  refine V_goto (Y := m_X5_allHold) (pc := 186) (tgt := 37) dX5_allHold_186 (by decide +kernel) ?_
  exact V_sub [1, 2, 3, 4, 5, 0] rfl (hk37 a1 x2 x3 x4 (x5 + (1 : Int32)) M z ha1 hf)
def f_X5_allHold_bc171_1 (k37 : Nat → Int32 → Int32 → Int32 → Int32 → Mem → Option (Int32 × Mem)) (a1 : Nat) (x2 : Int32) (x3 : Int32) (x4 : Int32) (x5 : Int32) (a6 : Nat) (x8 : Int32) (s0 : Int32) (s1 : Int32) (M : Mem) : Option (Int32 × Mem) :=
  (f_X2_span a6 M).bind fun q1 =>
  if ixb s1 9 = true then
  f_X5_allHold_b183 k37 a1 x2 x3 x4 x5 (mset q1.2 13 (ix s1) (imin s0 (x8 + q1.1)))
  else none
set_option maxRecDepth 20000 in
set_option maxHeartbeats 4000000 in
theorem ok_X5_allHold_bc171_1 {l : Launch} {g : Gam} {b : Nat} (k37 : Nat → Int32 → Int32 → Int32 → Int32 → Mem → Option (Int32 × Mem)) (hk37 : ∀ (a1 : Nat) (x2 : Int32) (x3 : Int32) (x4 : Int32) (x5 : Int32) (M : Mem) (z : Int32 × Mem), shC[a1]? = some (1, 0) → k37 a1 x2 x3 x4 x5 M = some z → V l g (wC b) m_X5_allHold 37 [(0, .ref (b + 9)), (1, .ref (b + a1)), (2, .int x2), (3, .int x3), (4, .int x4), (5, .int x5)] [] M (some (.int z.1)) z.2) (a1 : Nat) (x2 : Int32) (x3 : Int32) (x4 : Int32) (x5 : Int32) (a6 : Nat) (x8 : Int32) (s0 : Int32) (s1 : Int32) (M : Mem) (z : Int32 × Mem) (ha1 : shC[a1]? = some (1, 0)) (ha6 : shC[a6]? = some (1, 2)) (hf : f_X5_allHold_bc171_1 k37 a1 x2 x3 x4 x5 a6 x8 s0 s1 M = some z) : V l g (wC b) m_X5_allHold 171 [(0, .ref (b + 9)), (1, .ref (b + a1)), (2, .int x2), (3, .int x3), (4, .int x4), (5, .int x5), (6, .ref (b + a6)), (8, .int x8)] [.int s0, .int s1, .ref (b + 13)] M (some (.int z.1)) z.2 := by
  unfold f_X5_allHold_bc171_1 at hf
  refine V_iload (Y := m_X5_allHold) (pc := 171) 7 dX5_allHold_171 rfl ?_
  refine V_aload (Y := m_X5_allHold) (pc := 173) 6 dX5_allHold_173 rfl ?_
  obtain ⟨q1, hq1, hf⟩ := g_bind hf
  refine V_cVi (Y := m_X5_allHold) (pc := 175) (As := []) yf_X2_span kX2 ha6 (by decide +kernel) (ok_X2_span a6 M _ ha6 hq1) tw_541 tw_542 tw_876 rfl rfl (Nat.le_of_ble_eq_true rfl) dX5_allHold_175 ?_
  refine V_iadd (Y := m_X5_allHold) (pc := 178) dX5_allHold_178 ?_
  refine V_mmin (Y := m_X5_allHold) (pc := 179) (by decide +kernel) j_mmin tw_878 (Nat.le_of_ble_eq_true rfl) dX5_allHold_179 ?_
  obtain ⟨hi2, hf⟩ := g_if hf
  refine V_iast (Y := m_X5_allHold) (pc := 182) sC_13 hi2 dX5_allHold_182 ?_
  exact V_sub [0, 1, 2, 3, 4, 5] rfl (ok_X5_allHold_b183 k37 hk37 a1 x2 x3 x4 x5 (mset q1.2 13 (ix s1) (imin s0 (x8 + q1.1))) z ha1 hf)
def f_X5_allHold_b119 (k37 : Nat → Int32 → Int32 → Int32 → Int32 → Mem → Option (Int32 × Mem)) (a1 : Nat) (x2 : Int32) (x3 : Int32) (x4 : Int32) (x5 : Int32) (a6 : Nat) (s0 : Int32) (M : Mem) : Option (Int32 × Mem) :=
  if ixb (M a6 5) 9 = true then
  (f_X2_span a6 M).bind fun q2 =>
  if ixb (M a6 5) 9 = true then
  if ixb ((mset q2.2 12 (ix (M a6 5)) (imax (M 12 (ix (M a6 5))) (s0 - q2.1))) a6 5) 9 = true then
  f_X5_allHold_bc171_1 k37 a1 x2 x3 x4 x5 a6 s0 ((mset q2.2 12 (ix (M a6 5)) (imax (M 12 (ix (M a6 5))) (s0 - q2.1))) 13 (ix ((mset q2.2 12 (ix (M a6 5)) (imax (M 12 (ix (M a6 5))) (s0 - q2.1))) a6 5))) ((mset q2.2 12 (ix (M a6 5)) (imax (M 12 (ix (M a6 5))) (s0 - q2.1))) a6 5) (mset q2.2 12 (ix (M a6 5)) (imax (M 12 (ix (M a6 5))) (s0 - q2.1)))
  else none
  else none
  else none
set_option maxRecDepth 20000 in
set_option maxHeartbeats 4000000 in
theorem ok_X5_allHold_b119 {l : Launch} {g : Gam} {b : Nat} (k37 : Nat → Int32 → Int32 → Int32 → Int32 → Mem → Option (Int32 × Mem)) (hk37 : ∀ (a1 : Nat) (x2 : Int32) (x3 : Int32) (x4 : Int32) (x5 : Int32) (M : Mem) (z : Int32 × Mem), shC[a1]? = some (1, 0) → k37 a1 x2 x3 x4 x5 M = some z → V l g (wC b) m_X5_allHold 37 [(0, .ref (b + 9)), (1, .ref (b + a1)), (2, .int x2), (3, .int x3), (4, .int x4), (5, .int x5)] [] M (some (.int z.1)) z.2) (a1 : Nat) (x2 : Int32) (x3 : Int32) (x4 : Int32) (x5 : Int32) (a6 : Nat) (s0 : Int32) (M : Mem) (z : Int32 × Mem) (ha1 : shC[a1]? = some (1, 0)) (ha6 : shC[a6]? = some (1, 2)) (hf : f_X5_allHold_b119 k37 a1 x2 x3 x4 x5 a6 s0 M = some z) : V l g (wC b) m_X5_allHold 119 [(0, .ref (b + 9)), (1, .ref (b + a1)), (2, .int x2), (3, .int x3), (4, .int x4), (5, .int x5), (6, .ref (b + a6))] [.int s0] M (some (.int z.1)) z.2 := by
  unfold f_X5_allHold_b119 at hf
  refine V_istore (Y := m_X5_allHold) (pc := 119) [(8, .int s0), (0, .ref (b + 9)), (1, .ref (b + a1)), (2, .int x2), (3, .int x3), (4, .int x4), (5, .int x5), (6, .ref (b + a6))] dX5_allHold_119 (by decide +kernel) rfl ?_
  refine V_aload_n (Y := m_X5_allHold) (pc := 121) 1 dX5_allHold_121 rfl ?_
  refine V_grL (Y := m_X5_allHold) (pc := 122) (x := 12) 5 kX5 sC_9 (by decide +kernel) rfl rfl tw_216 dX5_allHold_122 ?_
  refine V_aload (Y := m_X5_allHold) (pc := 125) 7 dX5_allHold_125 rfl ?_
  refine V_gi (Y := m_X5_allHold) (pc := 127) 5 kX2 ha6 (by decide +kernel) rfl tw_307 dX5_allHold_127 ?_
  refine V_aload_n (Y := m_X5_allHold) (pc := 130) 1 dX5_allHold_130 rfl ?_
  refine V_grL (Y := m_X5_allHold) (pc := 131) (x := 12) 5 kX5 sC_9 (by decide +kernel) rfl rfl tw_216 dX5_allHold_131 ?_
  refine V_aload (Y := m_X5_allHold) (pc := 134) 7 dX5_allHold_134 rfl ?_
  refine V_gi (Y := m_X5_allHold) (pc := 136) 5 kX2 ha6 (by decide +kernel) rfl tw_307 dX5_allHold_136 ?_
  obtain ⟨hi1, hf⟩ := g_if hf
  refine V_iald (Y := m_X5_allHold) (pc := 139) sC_12 hi1 dX5_allHold_139 ?_
  refine V_iload (Y := m_X5_allHold) (pc := 140) 0 dX5_allHold_140 rfl ?_
  refine V_aload (Y := m_X5_allHold) (pc := 142) 7 dX5_allHold_142 rfl ?_
  obtain ⟨q2, hq2, hf⟩ := g_bind hf
  refine V_cVi (Y := m_X5_allHold) (pc := 144) (As := []) yf_X2_span kX2 ha6 (by decide +kernel) (ok_X2_span a6 M _ ha6 hq2) tw_541 tw_542 tw_876 rfl rfl (Nat.le_of_ble_eq_true rfl) dX5_allHold_144 ?_
  refine V_isub (Y := m_X5_allHold) (pc := 147) dX5_allHold_147 ?_
  refine V_mmax (Y := m_X5_allHold) (pc := 148) (by decide +kernel) j_mmax tw_877 (Nat.le_of_ble_eq_true rfl) dX5_allHold_148 ?_
  obtain ⟨hi3, hf⟩ := g_if hf
  refine V_iast (Y := m_X5_allHold) (pc := 151) sC_12 hi3 dX5_allHold_151 ?_
  refine V_aload_n (Y := m_X5_allHold) (pc := 152) 1 dX5_allHold_152 rfl ?_
  refine V_grL (Y := m_X5_allHold) (pc := 153) (x := 13) 6 kX5 sC_9 (by decide +kernel) rfl rfl tw_217 dX5_allHold_153 ?_
  refine V_aload (Y := m_X5_allHold) (pc := 156) 7 dX5_allHold_156 rfl ?_
  refine V_gi (Y := m_X5_allHold) (pc := 158) 5 kX2 ha6 (by decide +kernel) rfl tw_307 dX5_allHold_158 ?_
  refine V_aload_n (Y := m_X5_allHold) (pc := 161) 1 dX5_allHold_161 rfl ?_
  refine V_grL (Y := m_X5_allHold) (pc := 162) (x := 13) 6 kX5 sC_9 (by decide +kernel) rfl rfl tw_217 dX5_allHold_162 ?_
  refine V_aload (Y := m_X5_allHold) (pc := 165) 7 dX5_allHold_165 rfl ?_
  refine V_gi (Y := m_X5_allHold) (pc := 167) 5 kX2 ha6 (by decide +kernel) rfl tw_307 dX5_allHold_167 ?_
  obtain ⟨hi4, hf⟩ := g_if hf
  refine V_iald (Y := m_X5_allHold) (pc := 170) sC_13 hi4 dX5_allHold_170 ?_
  exact V_sub [1, 2, 3, 4, 5, 6, 7, 0] rfl (ok_X5_allHold_bc171_1 k37 hk37 a1 x2 x3 x4 x5 a6 s0 ((mset q2.2 12 (ix (M a6 5)) (imax (M 12 (ix (M a6 5))) (s0 - q2.1))) 13 (ix ((mset q2.2 12 (ix (M a6 5)) (imax (M 12 (ix (M a6 5))) (s0 - q2.1))) a6 5))) ((mset q2.2 12 (ix (M a6 5)) (imax (M 12 (ix (M a6 5))) (s0 - q2.1))) a6 5) (mset q2.2 12 (ix (M a6 5)) (imax (M 12 (ix (M a6 5))) (s0 - q2.1))) z ha1 ha6 hf)
def f_X5_allHold_b80 (k37 : Nat → Int32 → Int32 → Int32 → Int32 → Mem → Option (Int32 × Mem)) (a1 : Nat) (x2 : Int32) (x3 : Int32) (x4 : Int32) (x5 : Int32) (a6 : Nat) (s0 : Int32) (M : Mem) : Option (Int32 × Mem) :=
  (f_X5_isFixOf a6 x2 M).bind fun q1 =>
  if q1.1 = 0 then
    if ixb x5 24 = true then
    f_X5_allHold_b119 k37 a1 x2 x3 x4 x5 a6 (q1.2 11 (ix x5)) q1.2
    else none
  else
    if ixb x5 24 = true then
    (f_X0_watchWith (q1.2 10 (ix x5)) s0 q1.2).bind fun q4 =>
    f_X5_allHold_b119 k37 a1 x2 x3 x4 x5 a6 ((q1.2 a6 3) + q4.1) q4.2
    else none
set_option maxRecDepth 20000 in
set_option maxHeartbeats 4000000 in
theorem ok_X5_allHold_b80 {l : Launch} {g : Gam} {b : Nat} (k37 : Nat → Int32 → Int32 → Int32 → Int32 → Mem → Option (Int32 × Mem)) (hk37 : ∀ (a1 : Nat) (x2 : Int32) (x3 : Int32) (x4 : Int32) (x5 : Int32) (M : Mem) (z : Int32 × Mem), shC[a1]? = some (1, 0) → k37 a1 x2 x3 x4 x5 M = some z → V l g (wC b) m_X5_allHold 37 [(0, .ref (b + 9)), (1, .ref (b + a1)), (2, .int x2), (3, .int x3), (4, .int x4), (5, .int x5)] [] M (some (.int z.1)) z.2) (a1 : Nat) (x2 : Int32) (x3 : Int32) (x4 : Int32) (x5 : Int32) (a6 : Nat) (s0 : Int32) (M : Mem) (z : Int32 × Mem) (ha1 : shC[a1]? = some (1, 0)) (ha6 : shC[a6]? = some (1, 2)) (hf : f_X5_allHold_b80 k37 a1 x2 x3 x4 x5 a6 s0 M = some z) : V l g (wC b) m_X5_allHold 80 [(0, .ref (b + 9)), (1, .ref (b + a1)), (2, .int x2), (3, .int x3), (4, .int x4), (5, .int x5), (6, .ref (b + a6))] [.int s0] M (some (.int z.1)) z.2 := by
  unfold f_X5_allHold_b80 at hf
  refine V_istore (Y := m_X5_allHold) (pc := 80) [(7, .int s0), (0, .ref (b + 9)), (1, .ref (b + a1)), (2, .int x2), (3, .int x3), (4, .int x4), (5, .int x5), (6, .ref (b + a6))] dX5_allHold_80 (by decide +kernel) rfl ?_
  refine V_aload (Y := m_X5_allHold) (pc := 82) 7 dX5_allHold_82 rfl ?_
  refine V_iload_n (Y := m_X5_allHold) (pc := 84) 3 dX5_allHold_84 rfl ?_
  obtain ⟨q1, hq1, hf⟩ := g_bind hf
  refine V_cSi (Y := m_X5_allHold) (pc := 85) (As := [.ref (b + a6), .int x2]) yf_X5_isFixOf (by decide +kernel) (ok_X5_isFixOf a6 x2 M _ ha6 hq1) tw_862 tw_861 rfl rfl (Nat.le_of_ble_eq_true rfl) dX5_allHold_85 ?_
  refine V_if_eq (Y := m_X5_allHold) (pc := 88) (tgt := 112) dX5_allHold_88 (by decide +kernel) hf (fun hf => ?_) (fun hf => ?_)
  · refine V_aload_n (Y := m_X5_allHold) (pc := 112) 1 dX5_allHold_112 rfl ?_
    refine V_grL (Y := m_X5_allHold) (pc := 113) (x := 11) 4 kX5 sC_9 (by decide +kernel) rfl rfl tw_215 dX5_allHold_113 ?_
    refine V_iload (Y := m_X5_allHold) (pc := 116) 6 dX5_allHold_116 rfl ?_
    obtain ⟨hi2, hf⟩ := g_if hf
    refine V_iald (Y := m_X5_allHold) (pc := 118) sC_11 hi2 dX5_allHold_118 ?_
    exact V_sub [1, 2, 3, 4, 5, 6, 7] rfl (ok_X5_allHold_b119 k37 hk37 a1 x2 x3 x4 x5 a6 (q1.2 11 (ix x5)) q1.2 z ha1 ha6 hf)
  · refine V_aload (Y := m_X5_allHold) (pc := 91) 7 dX5_allHold_91 rfl ?_
    refine V_gi (Y := m_X5_allHold) (pc := 93) 3 kX2 ha6 (by decide +kernel) rfl tw_299 dX5_allHold_93 ?_
    refine V_aload_n (Y := m_X5_allHold) (pc := 96) 1 dX5_allHold_96 rfl ?_
    refine V_grL (Y := m_X5_allHold) (pc := 97) (x := 10) 3 kX5 sC_9 (by decide +kernel) rfl rfl tw_214 dX5_allHold_97 ?_
    refine V_iload (Y := m_X5_allHold) (pc := 100) 6 dX5_allHold_100 rfl ?_
    obtain ⟨hi3, hf⟩ := g_if hf
    refine V_iald (Y := m_X5_allHold) (pc := 102) sC_10 hi3 dX5_allHold_102 ?_
    refine V_iload (Y := m_X5_allHold) (pc := 103) 0 dX5_allHold_103 rfl ?_
    obtain ⟨q4, hq4, hf⟩ := g_bind hf
    refine V_cSi (Y := m_X5_allHold) (pc := 105) (As := [.int (q1.2 10 (ix x5)), .int s0]) yf_X0_watchWith (by decide +kernel) (ok_X0_watchWith (q1.2 10 (ix x5)) s0 q1.2 _  hq4) tw_538 tw_875 rfl rfl (Nat.le_of_ble_eq_true rfl) dX5_allHold_105 ?_
    refine V_iadd (Y := m_X5_allHold) (pc := 108) dX5_allHold_108 ?_
    refine V_goto (Y := m_X5_allHold) (pc := 109) (tgt := 119) dX5_allHold_109 (by decide +kernel) ?_
    exact V_sub [1, 2, 3, 4, 5, 6, 7] rfl (ok_X5_allHold_b119 k37 hk37 a1 x2 x3 x4 x5 a6 ((q1.2 a6 3) + q4.1) q4.2 z ha1 ha6 hf)
def f_X5_allHold_b37  : Nat → Nat → Int32 → Int32 → Int32 → Int32 → Mem → Option (Int32 × Mem)
  | 0, _, _, _, _, _, _ => none
  | n + 1, a1, x2, x3, x4, x5, M =>
    if (M a1 9) ≤ x5 then
      f_X5_allHold_b189   M
    else
      if ixb x5 24 = true then
      if (M (rfC (rfC a1 0) (ix x5)) 5) = (-1000000005 : Int32) then
        f_X5_allHold_b183 (f_X5_allHold_b37  n) a1 x2 x3 x4 x5 M
      else
        if (M (rfC (rfC a1 0) (ix x5)) 2) < x3 then
          f_X5_allHold_b80 (f_X5_allHold_b37  n) a1 x2 x3 x4 x5 (rfC (rfC a1 0) (ix x5)) (0 : Int32) M
        else
          f_X5_allHold_b80 (f_X5_allHold_b37  n) a1 x2 x3 x4 x5 (rfC (rfC a1 0) (ix x5)) x4 M
      else none
set_option maxRecDepth 20000 in
set_option maxHeartbeats 4000000 in
theorem ok_X5_allHold_b37 {l : Launch} {g : Gam} {b : Nat}   : ∀ (n : Nat) (a1 : Nat) (x2 : Int32) (x3 : Int32) (x4 : Int32) (x5 : Int32) (M : Mem) (z : Int32 × Mem), (ha1 : shC[a1]? = some (1, 0)) → f_X5_allHold_b37  n a1 x2 x3 x4 x5 M = some z → V l g (wC b) m_X5_allHold 37 [(0, .ref (b + 9)), (1, .ref (b + a1)), (2, .int x2), (3, .int x3), (4, .int x4), (5, .int x5)] [] M (some (.int z.1)) z.2 := by
  intro n
  induction n with
  | zero =>
    intro a1 x2 x3 x4 x5 M z ha1 hf
    cases hf
  | succ n ih =>
    intro a1 x2 x3 x4 x5 M z ha1 hf
    rw [f_X5_allHold_b37] at hf
    refine V_iload (Y := m_X5_allHold) (pc := 37) 5 dX5_allHold_37 rfl ?_
    refine V_aload_n (Y := m_X5_allHold) (pc := 39) 1 dX5_allHold_39 rfl ?_
    refine V_gi (Y := m_X5_allHold) (pc := 40) 9 kX0 ha1 (by decide +kernel) rfl tw_353 dX5_allHold_40 ?_
    refine V_icmp_ge (Y := m_X5_allHold) (pc := 43) (tgt := 189) dX5_allHold_43 (by decide +kernel) hf (fun hf => ?_) (fun hf => ?_)
    · exact V_sub [0] rfl (ok_X5_allHold_b189   M z  hf)
    · refine V_aload_n (Y := m_X5_allHold) (pc := 46) 1 dX5_allHold_46 rfl ?_
      refine V_gr (Y := m_X5_allHold) (pc := 47) 0 kX0 ha1 (by decide +kernel) rfl tw_331 dX5_allHold_47 ?_
      refine V_iload (Y := m_X5_allHold) (pc := 50) 5 dX5_allHold_50 rfl ?_
      obtain ⟨hi1, hf⟩ := g_if hf
      refine V_aald (Y := m_X5_allHold) (pc := 52) 1 rfl (wtC.1 _ _ ha1 0 _ rfl) hi1 dX5_allHold_52 ?_
      refine V_astore (Y := m_X5_allHold) (pc := 53) [(6, .ref (b + (rfC (rfC a1 0) (ix x5)))), (0, .ref (b + 9)), (1, .ref (b + a1)), (2, .int x2), (3, .int x3), (4, .int x4), (5, .int x5)] dX5_allHold_53 (by decide +kernel) rfl ?_
      refine V_aload (Y := m_X5_allHold) (pc := 55) 0 dX5_allHold_55 rfl ?_
      refine V_gi (Y := m_X5_allHold) (pc := 57) 5 kX2 (wtC.2 _ _ _ (wtC.1 _ _ ha1 0 _ rfl) _ (ixb_lt hi1)) (by decide +kernel) rfl tw_307 dX5_allHold_57 ?_
      refine V_ldc (Y := m_X5_allHold) (pc := 60) (x := (-1000000005 : Int32)) dX5_allHold_60 tw_860 ?_
      refine V_icmp_eq (Y := m_X5_allHold) (pc := 62) (tgt := 183) dX5_allHold_62 (by decide +kernel) hf (fun hf => ?_) (fun hf => ?_)
      · exact V_sub [1, 2, 3, 4, 5, 6] rfl (ok_X5_allHold_b183 (f_X5_allHold_b37  n) ih a1 x2 x3 x4 x5 M z ha1 hf)
      · refine V_aload (Y := m_X5_allHold) (pc := 65) 0 dX5_allHold_65 rfl ?_
        refine V_gi (Y := m_X5_allHold) (pc := 67) 2 kX2 (wtC.2 _ _ _ (wtC.1 _ _ ha1 0 _ rfl) _ (ixb_lt hi1)) (by decide +kernel) rfl tw_294 dX5_allHold_67 ?_
        refine V_iload_n (Y := m_X5_allHold) (pc := 70) 4 dX5_allHold_70 rfl ?_
        refine V_icmp_lt (Y := m_X5_allHold) (pc := 71) (tgt := 79) dX5_allHold_71 (by decide +kernel) hf (fun hf => ?_) (fun hf => ?_)
        · refine V_iconst (Y := m_X5_allHold) (pc := 79) (x := (0 : Int32)) dX5_allHold_79 (by decide +kernel) ?_
          exact V_sub [1, 2, 3, 4, 5, 6, 0] rfl (ok_X5_allHold_b80 (f_X5_allHold_b37  n) ih a1 x2 x3 x4 x5 (rfC (rfC a1 0) (ix x5)) (0 : Int32) M z ha1 (wtC.2 _ _ _ (wtC.1 _ _ ha1 0 _ rfl) _ (ixb_lt hi1)) hf)
        · refine V_iload (Y := m_X5_allHold) (pc := 74) 5 dX5_allHold_74 rfl ?_
          refine V_goto (Y := m_X5_allHold) (pc := 76) (tgt := 80) dX5_allHold_76 (by decide +kernel) ?_
          exact V_sub [1, 2, 3, 4, 5, 6, 0] rfl (ok_X5_allHold_b80 (f_X5_allHold_b37  n) ih a1 x2 x3 x4 x5 (rfC (rfC a1 0) (ix x5)) x4 M z ha1 (wtC.2 _ _ _ (wtC.1 _ _ ha1 0 _ rfl) _ (ixb_lt hi1)) hf)
def f_X5_allHold_b34  (a1 : Nat) (x2 : Int32) (x3 : Int32) (x4 : Int32) (M : Mem) : Option (Int32 × Mem) :=
  f_X5_allHold_b37  FU a1 x2 x3 x4 (0 : Int32) M
set_option maxRecDepth 20000 in
set_option maxHeartbeats 4000000 in
theorem ok_X5_allHold_b34 {l : Launch} {g : Gam} {b : Nat}   (a1 : Nat) (x2 : Int32) (x3 : Int32) (x4 : Int32) (M : Mem) (z : Int32 × Mem) (ha1 : shC[a1]? = some (1, 0)) (hf : f_X5_allHold_b34 a1 x2 x3 x4 M = some z) : V l g (wC b) m_X5_allHold 34 [(0, .ref (b + 9)), (1, .ref (b + a1)), (2, .int x2), (3, .int x3), (4, .int x4)] [] M (some (.int z.1)) z.2 := by
  unfold f_X5_allHold_b34 at hf
  refine V_iconst (Y := m_X5_allHold) (pc := 34) (x := (0 : Int32)) dX5_allHold_34 (by decide +kernel) ?_
  refine V_istore (Y := m_X5_allHold) (pc := 35) [(5, .int (0 : Int32)), (0, .ref (b + 9)), (1, .ref (b + a1)), (2, .int x2), (3, .int x3), (4, .int x4)] dX5_allHold_35 (by decide +kernel) rfl ?_
  exact V_sub [1, 2, 3, 4, 5, 0] rfl (ok_X5_allHold_b37  FU a1 x2 x3 x4 (0 : Int32) M z ha1 hf)
def f_X5_allHold_b3  : Nat → Nat → Int32 → Int32 → Int32 → Int32 → Mem → Option (Int32 × Mem)
  | 0, _, _, _, _, _, _ => none
  | n + 1, a1, x2, x3, x4, x5, M =>
    if (9 : Int32) ≤ x5 then
      f_X5_allHold_b34  a1 x2 x3 x4 M
    else
      if ixb x5 9 = true then
      if ixb x5 9 = true then
      f_X5_allHold_b3  n a1 x2 x3 x4 (x5 + (1 : Int32)) (mset (mset M 12 (ix x5) (-1000000 : Int32)) 13 (ix x5) (1000000 : Int32))
      else none
      else none
set_option maxRecDepth 20000 in
set_option maxHeartbeats 4000000 in
theorem ok_X5_allHold_b3 {l : Launch} {g : Gam} {b : Nat}   : ∀ (n : Nat) (a1 : Nat) (x2 : Int32) (x3 : Int32) (x4 : Int32) (x5 : Int32) (M : Mem) (z : Int32 × Mem), (ha1 : shC[a1]? = some (1, 0)) → f_X5_allHold_b3  n a1 x2 x3 x4 x5 M = some z → V l g (wC b) m_X5_allHold 3 [(0, .ref (b + 9)), (1, .ref (b + a1)), (2, .int x2), (3, .int x3), (4, .int x4), (5, .int x5)] [] M (some (.int z.1)) z.2 := by
  intro n
  induction n with
  | zero =>
    intro a1 x2 x3 x4 x5 M z ha1 hf
    cases hf
  | succ n ih =>
    intro a1 x2 x3 x4 x5 M z ha1 hf
    rw [f_X5_allHold_b3] at hf
    refine V_iload (Y := m_X5_allHold) (pc := 3) 5 dX5_allHold_3 rfl ?_
    refine V_bipush (Y := m_X5_allHold) (pc := 5) (x := (9 : Int32)) dX5_allHold_5 (by decide +kernel) ?_
    refine V_icmp_ge (Y := m_X5_allHold) (pc := 7) (tgt := 34) dX5_allHold_7 (by decide +kernel) hf (fun hf => ?_) (fun hf => ?_)
    · exact V_sub [0, 1, 2, 3, 4] rfl (ok_X5_allHold_b34  a1 x2 x3 x4 M z ha1 hf)
    · refine V_aload_n (Y := m_X5_allHold) (pc := 10) 0 dX5_allHold_10 rfl ?_
      refine V_grL (Y := m_X5_allHold) (pc := 11) (x := 12) 5 kX5 sC_9 (by decide +kernel) rfl rfl tw_216 dX5_allHold_11 ?_
      refine V_iload (Y := m_X5_allHold) (pc := 14) 5 dX5_allHold_14 rfl ?_
      refine V_ldc (Y := m_X5_allHold) (pc := 16) (x := (-1000000 : Int32)) dX5_allHold_16 tw_873 ?_
      obtain ⟨hi1, hf⟩ := g_if hf
      refine V_iast (Y := m_X5_allHold) (pc := 18) sC_12 hi1 dX5_allHold_18 ?_
      refine V_aload_n (Y := m_X5_allHold) (pc := 19) 0 dX5_allHold_19 rfl ?_
      refine V_grL (Y := m_X5_allHold) (pc := 20) (x := 13) 6 kX5 sC_9 (by decide +kernel) rfl rfl tw_217 dX5_allHold_20 ?_
      refine V_iload (Y := m_X5_allHold) (pc := 23) 5 dX5_allHold_23 rfl ?_
      refine V_ldc (Y := m_X5_allHold) (pc := 25) (x := (1000000 : Int32)) dX5_allHold_25 tw_874 ?_
      obtain ⟨hi2, hf⟩ := g_if hf
      refine V_iast (Y := m_X5_allHold) (pc := 27) sC_13 hi2 dX5_allHold_27 ?_
      refine V_iinc (Y := m_X5_allHold) (pc := 28) (y := (x5 + (1 : Int32))) 5 [(5, .int (x5 + (1 : Int32))), (0, .ref (b + 9)), (1, .ref (b + a1)), (2, .int x2), (3, .int x3), (4, .int x4)] dX5_allHold_28 rfl rfl (by decide +kernel) rfl ?_
      refine V_goto (Y := m_X5_allHold) (pc := 31) (tgt := 3) dX5_allHold_31 (by decide +kernel) ?_
      exact V_sub [1, 2, 3, 4, 5, 0] rfl (ih a1 x2 x3 x4 (x5 + (1 : Int32)) (mset (mset M 12 (ix x5) (-1000000 : Int32)) 13 (ix x5) (1000000 : Int32)) z ha1 hf)
def f_X5_allHold_b0  (a1 : Nat) (x2 : Int32) (x3 : Int32) (x4 : Int32) (M : Mem) : Option (Int32 × Mem) :=
  f_X5_allHold_b3  FU a1 x2 x3 x4 (0 : Int32) M
set_option maxRecDepth 20000 in
set_option maxHeartbeats 4000000 in
theorem ok_X5_allHold_b0 {l : Launch} {g : Gam} {b : Nat}   (a1 : Nat) (x2 : Int32) (x3 : Int32) (x4 : Int32) (M : Mem) (z : Int32 × Mem) (ha1 : shC[a1]? = some (1, 0)) (hf : f_X5_allHold_b0 a1 x2 x3 x4 M = some z) : V l g (wC b) m_X5_allHold 0 [(0, .ref (b + 9)), (1, .ref (b + a1)), (2, .int x2), (3, .int x3), (4, .int x4)] [] M (some (.int z.1)) z.2 := by
  unfold f_X5_allHold_b0 at hf
  refine V_iconst (Y := m_X5_allHold) (pc := 0) (x := (0 : Int32)) dX5_allHold_0 (by decide +kernel) ?_
  refine V_istore (Y := m_X5_allHold) (pc := 1) [(5, .int (0 : Int32)), (0, .ref (b + 9)), (1, .ref (b + a1)), (2, .int x2), (3, .int x3), (4, .int x4)] dX5_allHold_1 (by decide +kernel) rfl ?_
  exact V_sub [1, 2, 3, 4, 5, 0] rfl (ok_X5_allHold_b3  FU a1 x2 x3 x4 (0 : Int32) M z ha1 hf)
def f_X5_allHold (a1 : Nat) (x2 : Int32) (x3 : Int32) (x4 : Int32) (M : Mem) : Option (Int32 × Mem) := f_X5_allHold_b0 a1 x2 x3 x4 M
set_option maxRecDepth 20000 in
set_option maxHeartbeats 4000000 in
theorem ok_X5_allHold {l : Launch} {g : Gam} {b : Nat} : ∀ (a1 : Nat) (x2 : Int32) (x3 : Int32) (x4 : Int32) (M : Mem) (z : Int32 × Mem), shC[a1]? = some (1, 0) → f_X5_allHold a1 x2 x3 x4 M = some z → Cn l g (wC b) m_X5_allHold [.ref (b + 9), .ref (b + a1), .int x2, .int x3, .int x4] M (some (.int z.1)) z.2 := fun a1 x2 x3 x4 M z ha1 hf => Cn_of (by decide +kernel) (Nat.le_of_ble_eq_true rfl) (V_sub [0, 1, 2, 3, 4] rfl (ok_X5_allHold_b0 a1 x2 x3 x4 M z ha1 hf))

abbrev m_X5_find : Mth := (yX5_find, cX5_find, 5, none, 4)
theorem yf_X5_find : YF m_X5_find 3 := ⟨tw_868, tw_69, by decide +kernel, by decide +kernel⟩
def f_X5_find_b78 (k21 : Nat → Int32 → Int32 → Int32 → Mem → Option (Int32 × Mem)) (a1 : Nat) (x2 : Int32) (x3 : Int32) (x4 : Int32) (M : Mem) : Option (Int32 × Mem) :=
  k21 a1 x2 x3 (x4 + (1 : Int32)) M
set_option maxRecDepth 20000 in
set_option maxHeartbeats 4000000 in
theorem ok_X5_find_b78 {l : Launch} {g : Gam} {b : Nat} (k21 : Nat → Int32 → Int32 → Int32 → Mem → Option (Int32 × Mem)) (hk21 : ∀ (a1 : Nat) (x2 : Int32) (x3 : Int32) (x4 : Int32) (M : Mem) (z : Int32 × Mem), shC[a1]? = some (1, 0) → k21 a1 x2 x3 x4 M = some z → V l g (wC b) m_X5_find 21 [(0, .ref (b + 9)), (1, .ref (b + a1)), (2, .int x2), (3, .int x3), (4, .int x4)] [] M none z.2) (a1 : Nat) (x2 : Int32) (x3 : Int32) (x4 : Int32) (M : Mem) (z : Int32 × Mem) (ha1 : shC[a1]? = some (1, 0)) (hf : f_X5_find_b78 k21 a1 x2 x3 x4 M = some z) : V l g (wC b) m_X5_find 78 [(0, .ref (b + 9)), (1, .ref (b + a1)), (2, .int x2), (3, .int x3), (4, .int x4)] [] M none z.2 := by
  unfold f_X5_find_b78 at hf
  refine V_iinc (Y := m_X5_find) (pc := 78) (y := (x4 + (1 : Int32))) 4 [(4, .int (x4 + (1 : Int32))), (0, .ref (b + 9)), (1, .ref (b + a1)), (2, .int x2), (3, .int x3)] dX5_find_78 rfl rfl (by decide +kernel) rfl ?_
  refine V_goto (Y := m_X5_find) (pc := 81) (tgt := 21) dX5_find_81 (by decide +kernel) ?_
  exact V_sub [1, 2, 3, 4, 0] rfl (hk21 a1 x2 x3 (x4 + (1 : Int32)) M z ha1 hf)
def f_X5_find_b69 (k21 : Nat → Int32 → Int32 → Int32 → Mem → Option (Int32 × Mem)) (a1 : Nat) (x2 : Int32) (x3 : Int32) (x4 : Int32) (s0 : Int32) (M : Mem) : Option (Int32 × Mem) :=
  f_X5_find_b78 k21 a1 x2 x3 x4 (mset (mset M 9 1 s0) 9 2 x4)
set_option maxRecDepth 20000 in
set_option maxHeartbeats 4000000 in
theorem ok_X5_find_b69 {l : Launch} {g : Gam} {b : Nat} (k21 : Nat → Int32 → Int32 → Int32 → Mem → Option (Int32 × Mem)) (hk21 : ∀ (a1 : Nat) (x2 : Int32) (x3 : Int32) (x4 : Int32) (M : Mem) (z : Int32 × Mem), shC[a1]? = some (1, 0) → k21 a1 x2 x3 x4 M = some z → V l g (wC b) m_X5_find 21 [(0, .ref (b + 9)), (1, .ref (b + a1)), (2, .int x2), (3, .int x3), (4, .int x4)] [] M none z.2) (a1 : Nat) (x2 : Int32) (x3 : Int32) (x4 : Int32) (s0 : Int32) (M : Mem) (z : Int32 × Mem) (ha1 : shC[a1]? = some (1, 0)) (hf : f_X5_find_b69 k21 a1 x2 x3 x4 s0 M = some z) : V l g (wC b) m_X5_find 69 [(0, .ref (b + 9)), (1, .ref (b + a1)), (2, .int x2), (3, .int x3), (4, .int x4)] [.int s0, .ref (b + 9)] M none z.2 := by
  unfold f_X5_find_b69 at hf
  refine V_pi (Y := m_X5_find) (pc := 69) 1 kX5 sC_9 (by decide +kernel) rfl rfl rfl tw_210 dX5_find_69 ?_
  refine V_aload_n (Y := m_X5_find) (pc := 72) 0 dX5_find_72 rfl ?_
  refine V_iload (Y := m_X5_find) (pc := 73) 4 dX5_find_73 rfl ?_
  refine V_pi (Y := m_X5_find) (pc := 75) 2 kX5 sC_9 (by decide +kernel) rfl rfl rfl tw_212 dX5_find_75 ?_
  exact V_sub [0, 1, 2, 3, 4] rfl (ok_X5_find_b78 k21 hk21 a1 x2 x3 x4 (mset (mset M 9 1 s0) 9 2 x4) z ha1 hf)
def f_X5_find_b21  : Nat → Nat → Int32 → Int32 → Int32 → Mem → Option (Int32 × Mem)
  | 0, _, _, _, _, _ => none
  | n + 1, a1, x2, x3, x4, M =>
    if (50 : Int32) < x4 then
      some (0, M)
    else
      (f_X5_allHold a1 x2 x3 x4 M).bind fun q1 =>
      if q1.1 = 0 then
        f_X5_find_b78 (f_X5_find_b21  n) a1 x2 x3 x4 q1.2
      else
        if ((mset q1.2 9 0 ((q1.2 9 0) + (1 : Int32))) 9 1) = (-1000000005 : Int32) then
          f_X5_find_b69 (f_X5_find_b21  n) a1 x2 x3 x4 x4 (mset q1.2 9 0 ((q1.2 9 0) + (1 : Int32)))
        else
          f_X5_find_b69 (f_X5_find_b21  n) a1 x2 x3 x4 ((mset q1.2 9 0 ((q1.2 9 0) + (1 : Int32))) 9 1) (mset q1.2 9 0 ((q1.2 9 0) + (1 : Int32)))
set_option maxRecDepth 20000 in
set_option maxHeartbeats 4000000 in
theorem ok_X5_find_b21 {l : Launch} {g : Gam} {b : Nat}   : ∀ (n : Nat) (a1 : Nat) (x2 : Int32) (x3 : Int32) (x4 : Int32) (M : Mem) (z : Int32 × Mem), (ha1 : shC[a1]? = some (1, 0)) → f_X5_find_b21  n a1 x2 x3 x4 M = some z → V l g (wC b) m_X5_find 21 [(0, .ref (b + 9)), (1, .ref (b + a1)), (2, .int x2), (3, .int x3), (4, .int x4)] [] M none z.2 := by
  intro n
  induction n with
  | zero =>
    intro a1 x2 x3 x4 M z ha1 hf
    cases hf
  | succ n ih =>
    intro a1 x2 x3 x4 M z ha1 hf
    rw [f_X5_find_b21] at hf
    refine V_iload (Y := m_X5_find) (pc := 21) 4 dX5_find_21 rfl ?_
    refine V_bipush (Y := m_X5_find) (pc := 23) (x := (50 : Int32)) dX5_find_23 (by decide +kernel) ?_
    refine V_icmp_gt (Y := m_X5_find) (pc := 25) (tgt := 84) dX5_find_25 (by decide +kernel) hf (fun hf => ?_) (fun hf => ?_)
    · obtain rfl := Option.some.inj hf
      exact V_vret (Y := m_X5_find) rfl dX5_find_84
    · refine V_aload_n (Y := m_X5_find) (pc := 28) 0 dX5_find_28 rfl ?_
      refine V_aload_n (Y := m_X5_find) (pc := 29) 1 dX5_find_29 rfl ?_
      refine V_iload_n (Y := m_X5_find) (pc := 30) 2 dX5_find_30 rfl ?_
      refine V_iload_n (Y := m_X5_find) (pc := 31) 3 dX5_find_31 rfl ?_
      refine V_iload (Y := m_X5_find) (pc := 32) 4 dX5_find_32 rfl ?_
      obtain ⟨q1, hq1, hf⟩ := g_bind hf
      refine V_cVi (Y := m_X5_find) (pc := 34) (As := [.ref (b + a1), .int x2, .int x3, .int x4]) yf_X5_allHold kX5 sC_9 (by decide +kernel) (ok_X5_allHold a1 x2 x3 x4 M _ ha1 hq1) tw_871 tw_14 tw_869 rfl rfl (Nat.le_of_ble_eq_true rfl) dX5_find_34 ?_
      refine V_if_eq (Y := m_X5_find) (pc := 37) (tgt := 78) dX5_find_37 (by decide +kernel) hf (fun hf => ?_) (fun hf => ?_)
      · exact V_sub [0, 1, 2, 3, 4] rfl (ok_X5_find_b78 (f_X5_find_b21  n) ih a1 x2 x3 x4 q1.2 z ha1 hf)
      · refine V_aload_n (Y := m_X5_find) (pc := 40) 0 dX5_find_40 rfl ?_
        refine V_dup (Y := m_X5_find) (pc := 41) dX5_find_41 rfl ?_
        refine V_gi (Y := m_X5_find) (pc := 42) 0 kX5 sC_9 (by decide +kernel) rfl tw_208 dX5_find_42 ?_
        refine V_iconst (Y := m_X5_find) (pc := 45) (x := (1 : Int32)) dX5_find_45 (by decide +kernel) ?_
        refine V_iadd (Y := m_X5_find) (pc := 46) dX5_find_46 ?_
        refine V_pi (Y := m_X5_find) (pc := 47) 0 kX5 sC_9 (by decide +kernel) rfl rfl rfl tw_208 dX5_find_47 ?_
        refine V_aload_n (Y := m_X5_find) (pc := 50) 0 dX5_find_50 rfl ?_
        refine V_aload_n (Y := m_X5_find) (pc := 51) 0 dX5_find_51 rfl ?_
        refine V_gi (Y := m_X5_find) (pc := 52) 1 kX5 sC_9 (by decide +kernel) rfl tw_210 dX5_find_52 ?_
        refine V_ldc (Y := m_X5_find) (pc := 55) (x := (-1000000005 : Int32)) dX5_find_55 tw_860 ?_
        refine V_icmp_ne (Y := m_X5_find) (pc := 57) (tgt := 65) dX5_find_57 (by decide +kernel) hf (fun hf => ?_) (fun hf => ?_)
        · refine V_aload_n (Y := m_X5_find) (pc := 65) 0 dX5_find_65 rfl ?_
          refine V_gi (Y := m_X5_find) (pc := 66) 1 kX5 sC_9 (by decide +kernel) rfl tw_210 dX5_find_66 ?_
          exact V_sub [0, 1, 2, 3, 4] rfl (ok_X5_find_b69 (f_X5_find_b21  n) ih a1 x2 x3 x4 ((mset q1.2 9 0 ((q1.2 9 0) + (1 : Int32))) 9 1) (mset q1.2 9 0 ((q1.2 9 0) + (1 : Int32))) z ha1 hf)
        · refine V_iload (Y := m_X5_find) (pc := 60) 4 dX5_find_60 rfl ?_
          refine V_goto (Y := m_X5_find) (pc := 62) (tgt := 69) dX5_find_62 (by decide +kernel) ?_
          exact V_sub [0, 1, 2, 3, 4] rfl (ok_X5_find_b69 (f_X5_find_b21  n) ih a1 x2 x3 x4 x4 (mset q1.2 9 0 ((q1.2 9 0) + (1 : Int32))) z ha1 hf)
def f_X5_find_b0  (a1 : Nat) (x2 : Int32) (x3 : Int32) (M : Mem) : Option (Int32 × Mem) :=
  f_X5_find_b21  FU a1 x2 x3 (-50 : Int32) (mset (mset (mset M 9 0 (0 : Int32)) 9 1 (-1000000005 : Int32)) 9 2 (-1000000005 : Int32))
set_option maxRecDepth 20000 in
set_option maxHeartbeats 4000000 in
theorem ok_X5_find_b0 {l : Launch} {g : Gam} {b : Nat}   (a1 : Nat) (x2 : Int32) (x3 : Int32) (M : Mem) (z : Int32 × Mem) (ha1 : shC[a1]? = some (1, 0)) (hf : f_X5_find_b0 a1 x2 x3 M = some z) : V l g (wC b) m_X5_find 0 [(0, .ref (b + 9)), (1, .ref (b + a1)), (2, .int x2), (3, .int x3)] [] M none z.2 := by
  unfold f_X5_find_b0 at hf
  refine V_aload_n (Y := m_X5_find) (pc := 0) 0 dX5_find_0 rfl ?_
  refine V_iconst (Y := m_X5_find) (pc := 1) (x := (0 : Int32)) dX5_find_1 (by decide +kernel) ?_
  refine V_pi (Y := m_X5_find) (pc := 2) 0 kX5 sC_9 (by decide +kernel) rfl rfl rfl tw_208 dX5_find_2 ?_
  refine V_aload_n (Y := m_X5_find) (pc := 5) 0 dX5_find_5 rfl ?_
  refine V_ldc (Y := m_X5_find) (pc := 6) (x := (-1000000005 : Int32)) dX5_find_6 tw_860 ?_
  refine V_pi (Y := m_X5_find) (pc := 8) 1 kX5 sC_9 (by decide +kernel) rfl rfl rfl tw_210 dX5_find_8 ?_
  refine V_aload_n (Y := m_X5_find) (pc := 11) 0 dX5_find_11 rfl ?_
  refine V_ldc (Y := m_X5_find) (pc := 12) (x := (-1000000005 : Int32)) dX5_find_12 tw_860 ?_
  refine V_pi (Y := m_X5_find) (pc := 14) 2 kX5 sC_9 (by decide +kernel) rfl rfl rfl tw_212 dX5_find_14 ?_
  refine V_bipush (Y := m_X5_find) (pc := 17) (x := (-50 : Int32)) dX5_find_17 (by decide +kernel) ?_
  refine V_istore (Y := m_X5_find) (pc := 19) [(4, .int (-50 : Int32)), (0, .ref (b + 9)), (1, .ref (b + a1)), (2, .int x2), (3, .int x3)] dX5_find_19 (by decide +kernel) rfl ?_
  exact V_sub [1, 2, 3, 4, 0] rfl (ok_X5_find_b21  FU a1 x2 x3 (-50 : Int32) (mset (mset (mset M 9 0 (0 : Int32)) 9 1 (-1000000005 : Int32)) 9 2 (-1000000005 : Int32)) z ha1 hf)
def f_X5_find (a1 : Nat) (x2 : Int32) (x3 : Int32) (M : Mem) : Option (Int32 × Mem) := f_X5_find_b0 a1 x2 x3 M
set_option maxRecDepth 20000 in
set_option maxHeartbeats 4000000 in
theorem ok_X5_find {l : Launch} {g : Gam} {b : Nat} : ∀ (a1 : Nat) (x2 : Int32) (x3 : Int32) (M : Mem) (z : Int32 × Mem), shC[a1]? = some (1, 0) → f_X5_find a1 x2 x3 M = some z → Cn l g (wC b) m_X5_find [.ref (b + 9), .ref (b + a1), .int x2, .int x3] M none z.2 := fun a1 x2 x3 M z ha1 hf => Cn_of (by decide +kernel) (Nat.le_of_ble_eq_true rfl) (V_sub [0, 1, 2, 3] rfl (ok_X5_find_b0 a1 x2 x3 M z ha1 hf))

abbrev m_X6_isMissing : Mth := (yX6_isMissing, cX6_isMissing, 1, some .boolean, 1)
theorem yf_X6_isMissing : YF m_X6_isMissing 0 := ⟨tw_886, tw_73, by decide +kernel, by decide +kernel⟩
def f_X6_isMissing_b0  (a0 : Nat) (M : Mem) : Option (Int32 × Mem) :=
  if (M a0 0) = (-1 : Int32) then
    some ((1 : Int32), M)
  else
    some ((0 : Int32), M)
set_option maxRecDepth 20000 in
set_option maxHeartbeats 4000000 in
theorem ok_X6_isMissing_b0 {l : Launch} {g : Gam} {b : Nat}   (a0 : Nat) (M : Mem) (z : Int32 × Mem) (ha0 : shC[a0]? = some (1, 6)) (hf : f_X6_isMissing_b0 a0 M = some z) : V l g (wC b) m_X6_isMissing 0 [(0, .ref (b + a0))] [] M (some (.int z.1)) z.2 := by
  unfold f_X6_isMissing_b0 at hf
  refine V_aload_n (Y := m_X6_isMissing) (pc := 0) 0 dX6_isMissing_0 rfl ?_
  refine V_gi (Y := m_X6_isMissing) (pc := 1) 0 kX6 ha0 (by decide +kernel) rfl tw_392 dX6_isMissing_1 ?_
  refine V_iconst (Y := m_X6_isMissing) (pc := 4) (x := (-1 : Int32)) dX6_isMissing_4 (by decide +kernel) ?_
  refine V_icmp_ne (Y := m_X6_isMissing) (pc := 5) (tgt := 12) dX6_isMissing_5 (by decide +kernel) hf (fun hf => ?_) (fun hf => ?_)
  · refine V_iconst (Y := m_X6_isMissing) (pc := 12) (x := (0 : Int32)) dX6_isMissing_12 (by decide +kernel) ?_
    obtain rfl := Option.some.inj hf
    exact V_zret (Y := m_X6_isMissing) z01_0 rfl dX6_isMissing_13
  · refine V_iconst (Y := m_X6_isMissing) (pc := 8) (x := (1 : Int32)) dX6_isMissing_8 (by decide +kernel) ?_
    refine V_goto (Y := m_X6_isMissing) (pc := 9) (tgt := 13) dX6_isMissing_9 (by decide +kernel) ?_
    obtain rfl := Option.some.inj hf
    exact V_zret (Y := m_X6_isMissing) z01_1 rfl dX6_isMissing_13
def f_X6_isMissing (a0 : Nat) (M : Mem) : Option (Int32 × Mem) := f_X6_isMissing_b0 a0 M
set_option maxRecDepth 20000 in
set_option maxHeartbeats 4000000 in
theorem ok_X6_isMissing {l : Launch} {g : Gam} {b : Nat} : ∀ (a0 : Nat) (M : Mem) (z : Int32 × Mem), shC[a0]? = some (1, 6) → f_X6_isMissing a0 M = some z → Cn l g (wC b) m_X6_isMissing [.ref (b + a0)] M (some (.int z.1)) z.2 := fun a0 M z ha0 hf => Cn_of (by decide +kernel) (Nat.le_of_ble_eq_true rfl) (V_sub [0] rfl (ok_X6_isMissing_b0 a0 M z ha0 hf))

abbrev m_X6_isFog : Mth := (yX6_isFog, cX6_isFog, 2, some .boolean, 1)
theorem yf_X6_isFog : YF m_X6_isFog 1 := ⟨tw_895, tw_73, by decide +kernel, by decide +kernel⟩
def f_X6_isFog_b0  (a0 : Nat) (x1 : Int32) (M : Mem) : Option (Int32 × Mem) :=
  if (M a0 0) = (1 : Int32) then
    if x1 = (-1000000005 : Int32) then
      some ((1 : Int32), M)
    else
      some ((0 : Int32), M)
  else
    some ((0 : Int32), M)
set_option maxRecDepth 20000 in
set_option maxHeartbeats 4000000 in
theorem ok_X6_isFog_b0 {l : Launch} {g : Gam} {b : Nat}   (a0 : Nat) (x1 : Int32) (M : Mem) (z : Int32 × Mem) (ha0 : shC[a0]? = some (1, 6)) (hf : f_X6_isFog_b0 a0 x1 M = some z) : V l g (wC b) m_X6_isFog 0 [(0, .ref (b + a0)), (1, .int x1)] [] M (some (.int z.1)) z.2 := by
  unfold f_X6_isFog_b0 at hf
  refine V_aload_n (Y := m_X6_isFog) (pc := 0) 0 dX6_isFog_0 rfl ?_
  refine V_gi (Y := m_X6_isFog) (pc := 1) 0 kX6 ha0 (by decide +kernel) rfl tw_392 dX6_isFog_1 ?_
  refine V_iconst (Y := m_X6_isFog) (pc := 4) (x := (1 : Int32)) dX6_isFog_4 (by decide +kernel) ?_
  refine V_icmp_ne (Y := m_X6_isFog) (pc := 5) (tgt := 18) dX6_isFog_5 (by decide +kernel) hf (fun hf => ?_) (fun hf => ?_)
  · refine V_iconst (Y := m_X6_isFog) (pc := 18) (x := (0 : Int32)) dX6_isFog_18 (by decide +kernel) ?_
    obtain rfl := Option.some.inj hf
    exact V_zret (Y := m_X6_isFog) z01_0 rfl dX6_isFog_19
  · refine V_iload_n (Y := m_X6_isFog) (pc := 8) 1 dX6_isFog_8 rfl ?_
    refine V_ldc (Y := m_X6_isFog) (pc := 9) (x := (-1000000005 : Int32)) dX6_isFog_9 tw_896 ?_
    refine V_icmp_ne (Y := m_X6_isFog) (pc := 11) (tgt := 18) dX6_isFog_11 (by decide +kernel) hf (fun hf => ?_) (fun hf => ?_)
    · refine V_iconst (Y := m_X6_isFog) (pc := 18) (x := (0 : Int32)) dX6_isFog_18 (by decide +kernel) ?_
      obtain rfl := Option.some.inj hf
      exact V_zret (Y := m_X6_isFog) z01_0 rfl dX6_isFog_19
    · refine V_iconst (Y := m_X6_isFog) (pc := 14) (x := (1 : Int32)) dX6_isFog_14 (by decide +kernel) ?_
      refine V_goto (Y := m_X6_isFog) (pc := 15) (tgt := 19) dX6_isFog_15 (by decide +kernel) ?_
      obtain rfl := Option.some.inj hf
      exact V_zret (Y := m_X6_isFog) z01_1 rfl dX6_isFog_19
def f_X6_isFog (a0 : Nat) (x1 : Int32) (M : Mem) : Option (Int32 × Mem) := f_X6_isFog_b0 a0 x1 M
set_option maxRecDepth 20000 in
set_option maxHeartbeats 4000000 in
theorem ok_X6_isFog {l : Launch} {g : Gam} {b : Nat} : ∀ (a0 : Nat) (x1 : Int32) (M : Mem) (z : Int32 × Mem), shC[a0]? = some (1, 6) → f_X6_isFog a0 x1 M = some z → Cn l g (wC b) m_X6_isFog [.ref (b + a0), .int x1] M (some (.int z.1)) z.2 := fun a0 x1 M z ha0 hf => Cn_of (by decide +kernel) (Nat.le_of_ble_eq_true rfl) (V_sub [0, 1] rfl (ok_X6_isFog_b0 a0 x1 M z ha0 hf))

abbrev m_X6_hasPlaces : Mth := (yX6_hasPlaces, cX6_hasPlaces, 3, some .boolean, 1)
theorem yf_X6_hasPlaces : YF m_X6_hasPlaces 2 := ⟨tw_995, tw_73, by decide +kernel, by decide +kernel⟩
def f_X6_hasPlaces_b0  (a0 : Nat) (x1 : Int32) (x2 : Int32) (M : Mem) : Option (Int32 × Mem) :=
  if x1 < 0 then
    some ((0 : Int32), M)
  else
    if x2 < 0 then
      some ((0 : Int32), M)
    else
      if ((M a0 1) - x1) < x2 then
        some ((0 : Int32), M)
      else
        some ((1 : Int32), M)
set_option maxRecDepth 20000 in
set_option maxHeartbeats 4000000 in
theorem ok_X6_hasPlaces_b0 {l : Launch} {g : Gam} {b : Nat}   (a0 : Nat) (x1 : Int32) (x2 : Int32) (M : Mem) (z : Int32 × Mem) (ha0 : shC[a0]? = some (1, 6)) (hf : f_X6_hasPlaces_b0 a0 x1 x2 M = some z) : V l g (wC b) m_X6_hasPlaces 0 [(0, .ref (b + a0)), (1, .int x1), (2, .int x2)] [] M (some (.int z.1)) z.2 := by
  unfold f_X6_hasPlaces_b0 at hf
  refine V_iload_n (Y := m_X6_hasPlaces) (pc := 0) 1 dX6_hasPlaces_0 rfl ?_
  refine V_if_lt (Y := m_X6_hasPlaces) (pc := 1) (tgt := 22) dX6_hasPlaces_1 (by decide +kernel) hf (fun hf => ?_) (fun hf => ?_)
  · refine V_iconst (Y := m_X6_hasPlaces) (pc := 22) (x := (0 : Int32)) dX6_hasPlaces_22 (by decide +kernel) ?_
    obtain rfl := Option.some.inj hf
    exact V_zret (Y := m_X6_hasPlaces) z01_0 rfl dX6_hasPlaces_23
  · refine V_iload_n (Y := m_X6_hasPlaces) (pc := 4) 2 dX6_hasPlaces_4 rfl ?_
    refine V_if_lt (Y := m_X6_hasPlaces) (pc := 5) (tgt := 22) dX6_hasPlaces_5 (by decide +kernel) hf (fun hf => ?_) (fun hf => ?_)
    · refine V_iconst (Y := m_X6_hasPlaces) (pc := 22) (x := (0 : Int32)) dX6_hasPlaces_22 (by decide +kernel) ?_
      obtain rfl := Option.some.inj hf
      exact V_zret (Y := m_X6_hasPlaces) z01_0 rfl dX6_hasPlaces_23
    · refine V_iload_n (Y := m_X6_hasPlaces) (pc := 8) 2 dX6_hasPlaces_8 rfl ?_
      refine V_aload_n (Y := m_X6_hasPlaces) (pc := 9) 0 dX6_hasPlaces_9 rfl ?_
      refine V_gi (Y := m_X6_hasPlaces) (pc := 10) 1 kX6 ha0 (by decide +kernel) rfl tw_394 dX6_hasPlaces_10 ?_
      refine V_iload_n (Y := m_X6_hasPlaces) (pc := 13) 1 dX6_hasPlaces_13 rfl ?_
      refine V_isub (Y := m_X6_hasPlaces) (pc := 14) dX6_hasPlaces_14 ?_
      refine V_icmp_gt (Y := m_X6_hasPlaces) (pc := 15) (tgt := 22) dX6_hasPlaces_15 (by decide +kernel) hf (fun hf => ?_) (fun hf => ?_)
      · refine V_iconst (Y := m_X6_hasPlaces) (pc := 22) (x := (0 : Int32)) dX6_hasPlaces_22 (by decide +kernel) ?_
        obtain rfl := Option.some.inj hf
        exact V_zret (Y := m_X6_hasPlaces) z01_0 rfl dX6_hasPlaces_23
      · refine V_iconst (Y := m_X6_hasPlaces) (pc := 18) (x := (1 : Int32)) dX6_hasPlaces_18 (by decide +kernel) ?_
        refine V_goto (Y := m_X6_hasPlaces) (pc := 19) (tgt := 23) dX6_hasPlaces_19 (by decide +kernel) ?_
        obtain rfl := Option.some.inj hf
        exact V_zret (Y := m_X6_hasPlaces) z01_1 rfl dX6_hasPlaces_23
def f_X6_hasPlaces (a0 : Nat) (x1 : Int32) (x2 : Int32) (M : Mem) : Option (Int32 × Mem) := f_X6_hasPlaces_b0 a0 x1 x2 M
set_option maxRecDepth 20000 in
set_option maxHeartbeats 4000000 in
theorem ok_X6_hasPlaces {l : Launch} {g : Gam} {b : Nat} : ∀ (a0 : Nat) (x1 : Int32) (x2 : Int32) (M : Mem) (z : Int32 × Mem), shC[a0]? = some (1, 6) → f_X6_hasPlaces a0 x1 x2 M = some z → Cn l g (wC b) m_X6_hasPlaces [.ref (b + a0), .int x1, .int x2] M (some (.int z.1)) z.2 := fun a0 x1 x2 M z ha0 hf => Cn_of (by decide +kernel) (Nat.le_of_ble_eq_true rfl) (V_sub [0, 1, 2] rfl (ok_X6_hasPlaces_b0 a0 x1 x2 M z ha0 hf))

abbrev m_X6_become : Mth := (yX6_become, cX6_become, 4, none, 1)
theorem yf_X6_become : YF m_X6_become 2 := ⟨tw_971, tw_73, by decide +kernel, by decide +kernel⟩
def f_X6_become_b12  : Nat → Nat → Int32 → Mem → Option (Int32 × Mem)
  | 0, _, _, _ => none
  | n + 1, a0, x3, M =>
    if (24 : Int32) ≤ x3 then
      some (0, M)
    else
      if ixb x3 24 = true then
      f_X6_become_b12  n a0 (x3 + (1 : Int32)) (mset M (rfC a0 2) (ix x3) (0 : Int32))
      else none
set_option maxRecDepth 20000 in
set_option maxHeartbeats 4000000 in
theorem ok_X6_become_b12 {l : Launch} {g : Gam} {b : Nat}   : ∀ (n : Nat) (a0 : Nat) (x3 : Int32) (M : Mem) (z : Int32 × Mem), (ha0 : shC[a0]? = some (1, 6)) → f_X6_become_b12  n a0 x3 M = some z → V l g (wC b) m_X6_become 12 [(0, .ref (b + a0)), (3, .int x3)] [] M none z.2 := by
  intro n
  induction n with
  | zero =>
    intro a0 x3 M z ha0 hf
    cases hf
  | succ n ih =>
    intro a0 x3 M z ha0 hf
    rw [f_X6_become_b12] at hf
    refine V_iload_n (Y := m_X6_become) (pc := 12) 1 dX6_become_12 rfl ?_
    refine V_bipush (Y := m_X6_become) (pc := 13) (x := (24 : Int32)) dX6_become_13 (by decide +kernel) ?_
    refine V_icmp_ge (Y := m_X6_become) (pc := 15) (tgt := 31) dX6_become_15 (by decide +kernel) hf (fun hf => ?_) (fun hf => ?_)
    · obtain rfl := Option.some.inj hf
      exact V_vret (Y := m_X6_become) rfl dX6_become_31
    · refine V_aload_n (Y := m_X6_become) (pc := 18) 0 dX6_become_18 rfl ?_
      refine V_gr (Y := m_X6_become) (pc := 19) 2 kX6 ha0 (by decide +kernel) rfl tw_396 dX6_become_19 ?_
      refine V_iload_n (Y := m_X6_become) (pc := 22) 1 dX6_become_22 rfl ?_
      refine V_iconst (Y := m_X6_become) (pc := 23) (x := (0 : Int32)) dX6_become_23 (by decide +kernel) ?_
      obtain ⟨hi1, hf⟩ := g_if hf
      refine V_iast (Y := m_X6_become) (pc := 24) (wtC.1 _ _ ha0 2 _ rfl) hi1 dX6_become_24 ?_
      refine V_iinc (Y := m_X6_become) (pc := 25) (y := (x3 + (1 : Int32))) 1 [(3, .int (x3 + (1 : Int32))), (0, .ref (b + a0))] dX6_become_25 rfl rfl (by decide +kernel) rfl ?_
      refine V_goto (Y := m_X6_become) (pc := 28) (tgt := 12) dX6_become_28 (by decide +kernel) ?_
      exact V_sub [1, 0] rfl (ih a0 (x3 + (1 : Int32)) (mset M (rfC a0 2) (ix x3) (0 : Int32)) z ha0 hf)
def f_X6_become_b0  (a0 : Nat) (x1 : Int32) (x2 : Int32) (M : Mem) : Option (Int32 × Mem) :=
  f_X6_become_b12  FU a0 (0 : Int32) (mset (mset M a0 0 x1) a0 1 x2)
set_option maxRecDepth 20000 in
set_option maxHeartbeats 4000000 in
theorem ok_X6_become_b0 {l : Launch} {g : Gam} {b : Nat}   (a0 : Nat) (x1 : Int32) (x2 : Int32) (M : Mem) (z : Int32 × Mem) (ha0 : shC[a0]? = some (1, 6)) (hf : f_X6_become_b0 a0 x1 x2 M = some z) : V l g (wC b) m_X6_become 0 [(0, .ref (b + a0)), (1, .int x1), (2, .int x2)] [] M none z.2 := by
  unfold f_X6_become_b0 at hf
  refine V_aload_n (Y := m_X6_become) (pc := 0) 0 dX6_become_0 rfl ?_
  refine V_iload_n (Y := m_X6_become) (pc := 1) 1 dX6_become_1 rfl ?_
  refine V_pi (Y := m_X6_become) (pc := 2) 0 kX6 ha0 (by decide +kernel) rfl rfl rfl tw_392 dX6_become_2 ?_
  refine V_aload_n (Y := m_X6_become) (pc := 5) 0 dX6_become_5 rfl ?_
  refine V_iload_n (Y := m_X6_become) (pc := 6) 2 dX6_become_6 rfl ?_
  refine V_pi (Y := m_X6_become) (pc := 7) 1 kX6 ha0 (by decide +kernel) rfl rfl rfl tw_394 dX6_become_7 ?_
  refine V_iconst (Y := m_X6_become) (pc := 10) (x := (0 : Int32)) dX6_become_10 (by decide +kernel) ?_
  refine V_istore_n (Y := m_X6_become) (pc := 11) [(3, .int (0 : Int32)), (0, .ref (b + a0)), (1, .int x1), (2, .int x2)] dX6_become_11 (by decide +kernel) rfl ?_
  exact V_sub [1, 0] rfl (ok_X6_become_b12  FU a0 (0 : Int32) (mset (mset M a0 0 x1) a0 1 x2) z ha0 hf)
def f_X6_become (a0 : Nat) (x1 : Int32) (x2 : Int32) (M : Mem) : Option (Int32 × Mem) := f_X6_become_b0 a0 x1 x2 M
set_option maxRecDepth 20000 in
set_option maxHeartbeats 4000000 in
theorem ok_X6_become {l : Launch} {g : Gam} {b : Nat} : ∀ (a0 : Nat) (x1 : Int32) (x2 : Int32) (M : Mem) (z : Int32 × Mem), shC[a0]? = some (1, 6) → f_X6_become a0 x1 x2 M = some z → Cn l g (wC b) m_X6_become [.ref (b + a0), .int x1, .int x2] M none z.2 := fun a0 x1 x2 M z ha0 hf => Cn_of (by decide +kernel) (Nat.le_of_ble_eq_true rfl) (V_sub [0, 1, 2] rfl (ok_X6_become_b0 a0 x1 x2 M z ha0 hf))

abbrev m_X6_takeFrom : Mth := (yX6_takeFrom, cX6_takeFrom, 2, none, 1)
theorem yf_X6_takeFrom : YF m_X6_takeFrom 1 := ⟨tw_1004, tw_73, by decide +kernel, by decide +kernel⟩
def f_X6_takeFrom_b0  (a0 : Nat) (a1 : Nat) (M : Mem) : Option (Int32 × Mem) :=
  if cpyb (0 : Int32) (0 : Int32) (24 : Int32) 24 24 = true then
  some (0, (mcpy (mset (mset M a0 0 (M a1 0)) a0 1 ((mset M a0 0 (M a1 0)) a1 1)) (rfC a1 2) (ix (0 : Int32)) (rfC a0 2) (ix (0 : Int32)) (ix (24 : Int32))))
  else none
set_option maxRecDepth 20000 in
set_option maxHeartbeats 4000000 in
theorem ok_X6_takeFrom_b0 {l : Launch} {g : Gam} {b : Nat}   (a0 : Nat) (a1 : Nat) (M : Mem) (z : Int32 × Mem) (ha0 : shC[a0]? = some (1, 6)) (ha1 : shC[a1]? = some (1, 6)) (hf : f_X6_takeFrom_b0 a0 a1 M = some z) : V l g (wC b) m_X6_takeFrom 0 [(0, .ref (b + a0)), (1, .ref (b + a1))] [] M none z.2 := by
  unfold f_X6_takeFrom_b0 at hf
  refine V_aload_n (Y := m_X6_takeFrom) (pc := 0) 0 dX6_takeFrom_0 rfl ?_
  refine V_aload_n (Y := m_X6_takeFrom) (pc := 1) 1 dX6_takeFrom_1 rfl ?_
  refine V_gi (Y := m_X6_takeFrom) (pc := 2) 0 kX6 ha1 (by decide +kernel) rfl tw_392 dX6_takeFrom_2 ?_
  refine V_pi (Y := m_X6_takeFrom) (pc := 5) 0 kX6 ha0 (by decide +kernel) rfl rfl rfl tw_392 dX6_takeFrom_5 ?_
  refine V_aload_n (Y := m_X6_takeFrom) (pc := 8) 0 dX6_takeFrom_8 rfl ?_
  refine V_aload_n (Y := m_X6_takeFrom) (pc := 9) 1 dX6_takeFrom_9 rfl ?_
  refine V_gi (Y := m_X6_takeFrom) (pc := 10) 1 kX6 ha1 (by decide +kernel) rfl tw_394 dX6_takeFrom_10 ?_
  refine V_pi (Y := m_X6_takeFrom) (pc := 13) 1 kX6 ha0 (by decide +kernel) rfl rfl rfl tw_394 dX6_takeFrom_13 ?_
  refine V_aload_n (Y := m_X6_takeFrom) (pc := 16) 1 dX6_takeFrom_16 rfl ?_
  refine V_gr (Y := m_X6_takeFrom) (pc := 17) 2 kX6 ha1 (by decide +kernel) rfl tw_396 dX6_takeFrom_17 ?_
  refine V_iconst (Y := m_X6_takeFrom) (pc := 20) (x := (0 : Int32)) dX6_takeFrom_20 (by decide +kernel) ?_
  refine V_aload_n (Y := m_X6_takeFrom) (pc := 21) 0 dX6_takeFrom_21 rfl ?_
  refine V_gr (Y := m_X6_takeFrom) (pc := 22) 2 kX6 ha0 (by decide +kernel) rfl tw_396 dX6_takeFrom_22 ?_
  refine V_iconst (Y := m_X6_takeFrom) (pc := 25) (x := (0 : Int32)) dX6_takeFrom_25 (by decide +kernel) ?_
  refine V_bipush (Y := m_X6_takeFrom) (pc := 26) (x := (24 : Int32)) dX6_takeFrom_26 (by decide +kernel) ?_
  obtain ⟨hi1, hf⟩ := g_if hf
  refine V_copy (Y := m_X6_takeFrom) (pc := 28) (by decide +kernel) j_copy tw_1005 (Nat.le_of_ble_eq_true rfl) (wtC.1 _ _ ha1 2 _ rfl) (wtC.1 _ _ ha0 2 _ rfl) hi1 dX6_takeFrom_28 ?_
  obtain rfl := Option.some.inj hf
  exact V_vret (Y := m_X6_takeFrom) rfl dX6_takeFrom_31
def f_X6_takeFrom (a0 : Nat) (a1 : Nat) (M : Mem) : Option (Int32 × Mem) := f_X6_takeFrom_b0 a0 a1 M
set_option maxRecDepth 20000 in
set_option maxHeartbeats 4000000 in
theorem ok_X6_takeFrom {l : Launch} {g : Gam} {b : Nat} : ∀ (a0 : Nat) (a1 : Nat) (M : Mem) (z : Int32 × Mem), shC[a0]? = some (1, 6) → shC[a1]? = some (1, 6) → f_X6_takeFrom a0 a1 M = some z → Cn l g (wC b) m_X6_takeFrom [.ref (b + a0), .ref (b + a1)] M none z.2 := fun a0 a1 M z ha0 ha1 hf => Cn_of (by decide +kernel) (Nat.le_of_ble_eq_true rfl) (V_sub [0, 1] rfl (ok_X6_takeFrom_b0 a0 a1 M z ha0 ha1 hf))

abbrev m_X9_isBelow : Mth := (yX9_isBelow, cX9_isBelow, 2, some .boolean, 1)
theorem yf_X9_isBelow : YF m_X9_isBelow 2 := ⟨tw_474, tw_65, by decide +kernel, by decide +kernel⟩
def f_X9_isBelow_b0  (x0 : Int32) (x1 : Int32) (M : Mem) : Option (Int32 × Mem) :=
  if x0 < 0 then
    some ((0 : Int32), M)
  else
    if x1 ≤ x0 then
      some ((0 : Int32), M)
    else
      some ((1 : Int32), M)
set_option maxRecDepth 20000 in
set_option maxHeartbeats 4000000 in
theorem ok_X9_isBelow_b0 {l : Launch} {g : Gam} {b : Nat}   (x0 : Int32) (x1 : Int32) (M : Mem) (z : Int32 × Mem)  (hf : f_X9_isBelow_b0 x0 x1 M = some z) : V l g (wC b) m_X9_isBelow 0 [(0, .int x0), (1, .int x1)] [] M (some (.int z.1)) z.2 := by
  unfold f_X9_isBelow_b0 at hf
  refine V_iload_n (Y := m_X9_isBelow) (pc := 0) 0 dX9_isBelow_0 rfl ?_
  refine V_if_lt (Y := m_X9_isBelow) (pc := 1) (tgt := 13) dX9_isBelow_1 (by decide +kernel) hf (fun hf => ?_) (fun hf => ?_)
  · refine V_iconst (Y := m_X9_isBelow) (pc := 13) (x := (0 : Int32)) dX9_isBelow_13 (by decide +kernel) ?_
    obtain rfl := Option.some.inj hf
    exact V_zret (Y := m_X9_isBelow) z01_0 rfl dX9_isBelow_14
  · refine V_iload_n (Y := m_X9_isBelow) (pc := 4) 0 dX9_isBelow_4 rfl ?_
    refine V_iload_n (Y := m_X9_isBelow) (pc := 5) 1 dX9_isBelow_5 rfl ?_
    refine V_icmp_ge (Y := m_X9_isBelow) (pc := 6) (tgt := 13) dX9_isBelow_6 (by decide +kernel) hf (fun hf => ?_) (fun hf => ?_)
    · refine V_iconst (Y := m_X9_isBelow) (pc := 13) (x := (0 : Int32)) dX9_isBelow_13 (by decide +kernel) ?_
      obtain rfl := Option.some.inj hf
      exact V_zret (Y := m_X9_isBelow) z01_0 rfl dX9_isBelow_14
    · refine V_iconst (Y := m_X9_isBelow) (pc := 9) (x := (1 : Int32)) dX9_isBelow_9 (by decide +kernel) ?_
      refine V_goto (Y := m_X9_isBelow) (pc := 10) (tgt := 14) dX9_isBelow_10 (by decide +kernel) ?_
      obtain rfl := Option.some.inj hf
      exact V_zret (Y := m_X9_isBelow) z01_1 rfl dX9_isBelow_14
def f_X9_isBelow (x0 : Int32) (x1 : Int32) (M : Mem) : Option (Int32 × Mem) := f_X9_isBelow_b0 x0 x1 M
set_option maxRecDepth 20000 in
set_option maxHeartbeats 4000000 in
theorem ok_X9_isBelow {l : Launch} {g : Gam} {b : Nat} : ∀ (x0 : Int32) (x1 : Int32) (M : Mem) (z : Int32 × Mem), f_X9_isBelow x0 x1 M = some z → Cn l g (wC b) m_X9_isBelow [.int x0, .int x1] M (some (.int z.1)) z.2 := fun x0 x1 M z  hf => Cn_of (by decide +kernel) (Nat.le_of_ble_eq_true rfl) (V_sub [0, 1] rfl (ok_X9_isBelow_b0 x0 x1 M z  hf))

abbrev m_X6_placesWithin : Mth := (yX6_placesWithin, cX6_placesWithin, 4, some .int, 2)
theorem yf_X6_placesWithin : YF m_X6_placesWithin 1 := ⟨tw_986, tw_73, by decide +kernel, by decide +kernel⟩
def f_X6_placesWithin_b31 (k4 : Nat → Int32 → Int32 → Int32 → Mem → Option (Int32 × Mem)) (a0 : Nat) (x1 : Int32) (x3 : Int32) (s0 : Int32) (s1 : Int32) (M : Mem) : Option (Int32 × Mem) :=
  k4 a0 x1 (s1 + s0) (x3 + (1 : Int32)) M
set_option maxRecDepth 20000 in
set_option maxHeartbeats 4000000 in
theorem ok_X6_placesWithin_b31 {l : Launch} {g : Gam} {b : Nat} (k4 : Nat → Int32 → Int32 → Int32 → Mem → Option (Int32 × Mem)) (hk4 : ∀ (a0 : Nat) (x1 : Int32) (x2 : Int32) (x3 : Int32) (M : Mem) (z : Int32 × Mem), shC[a0]? = some (1, 6) → k4 a0 x1 x2 x3 M = some z → V l g (wC b) m_X6_placesWithin 4 [(0, .ref (b + a0)), (1, .int x1), (2, .int x2), (3, .int x3)] [] M (some (.int z.1)) z.2) (a0 : Nat) (x1 : Int32) (x3 : Int32) (s0 : Int32) (s1 : Int32) (M : Mem) (z : Int32 × Mem) (ha0 : shC[a0]? = some (1, 6)) (hf : f_X6_placesWithin_b31 k4 a0 x1 x3 s0 s1 M = some z) : V l g (wC b) m_X6_placesWithin 31 [(0, .ref (b + a0)), (1, .int x1), (3, .int x3)] [.int s0, .int s1] M (some (.int z.1)) z.2 := by
  unfold f_X6_placesWithin_b31 at hf
  refine V_iadd (Y := m_X6_placesWithin) (pc := 31) dX6_placesWithin_31 ?_
  refine V_istore_n (Y := m_X6_placesWithin) (pc := 32) [(2, .int (s1 + s0)), (0, .ref (b + a0)), (1, .int x1), (3, .int x3)] dX6_placesWithin_32 (by decide +kernel) rfl ?_
  refine V_iinc (Y := m_X6_placesWithin) (pc := 33) (y := (x3 + (1 : Int32))) 3 [(3, .int (x3 + (1 : Int32))), (2, .int (s1 + s0)), (0, .ref (b + a0)), (1, .int x1)] dX6_placesWithin_33 rfl rfl (by decide +kernel) rfl ?_
  refine V_goto (Y := m_X6_placesWithin) (pc := 36) (tgt := 4) dX6_placesWithin_36 (by decide +kernel) ?_
  exact V_sub [2, 3, 1, 0] rfl (hk4 a0 x1 (s1 + s0) (x3 + (1 : Int32)) M z ha0 hf)
def f_X6_placesWithin_b4  : Nat → Nat → Int32 → Int32 → Int32 → Mem → Option (Int32 × Mem)
  | 0, _, _, _, _, _ => none
  | n + 1, a0, x1, x2, x3, M =>
    if (M a0 1) ≤ x3 then
      some (x2, M)
    else
      if ixb x3 24 = true then
      (f_X9_isBelow (M (rfC a0 2) (ix x3)) x1 M).bind fun q2 =>
      if q2.1 = 0 then
        f_X6_placesWithin_b31 (f_X6_placesWithin_b4  n) a0 x1 x3 (0 : Int32) x2 q2.2
      else
        f_X6_placesWithin_b31 (f_X6_placesWithin_b4  n) a0 x1 x3 (1 : Int32) x2 q2.2
      else none
set_option maxRecDepth 20000 in
set_option maxHeartbeats 4000000 in
theorem ok_X6_placesWithin_b4 {l : Launch} {g : Gam} {b : Nat}   : ∀ (n : Nat) (a0 : Nat) (x1 : Int32) (x2 : Int32) (x3 : Int32) (M : Mem) (z : Int32 × Mem), (ha0 : shC[a0]? = some (1, 6)) → f_X6_placesWithin_b4  n a0 x1 x2 x3 M = some z → V l g (wC b) m_X6_placesWithin 4 [(0, .ref (b + a0)), (1, .int x1), (2, .int x2), (3, .int x3)] [] M (some (.int z.1)) z.2 := by
  intro n
  induction n with
  | zero =>
    intro a0 x1 x2 x3 M z ha0 hf
    cases hf
  | succ n ih =>
    intro a0 x1 x2 x3 M z ha0 hf
    rw [f_X6_placesWithin_b4] at hf
    refine V_iload_n (Y := m_X6_placesWithin) (pc := 4) 3 dX6_placesWithin_4 rfl ?_
    refine V_aload_n (Y := m_X6_placesWithin) (pc := 5) 0 dX6_placesWithin_5 rfl ?_
    refine V_gi (Y := m_X6_placesWithin) (pc := 6) 1 kX6 ha0 (by decide +kernel) rfl tw_394 dX6_placesWithin_6 ?_
    refine V_icmp_ge (Y := m_X6_placesWithin) (pc := 9) (tgt := 39) dX6_placesWithin_9 (by decide +kernel) hf (fun hf => ?_) (fun hf => ?_)
    · refine V_iload_n (Y := m_X6_placesWithin) (pc := 39) 2 dX6_placesWithin_39 rfl ?_
      obtain rfl := Option.some.inj hf
      exact V_iret (Y := m_X6_placesWithin) rfl dX6_placesWithin_40
    · refine V_iload_n (Y := m_X6_placesWithin) (pc := 12) 2 dX6_placesWithin_12 rfl ?_
      refine V_aload_n (Y := m_X6_placesWithin) (pc := 13) 0 dX6_placesWithin_13 rfl ?_
      refine V_gr (Y := m_X6_placesWithin) (pc := 14) 2 kX6 ha0 (by decide +kernel) rfl tw_396 dX6_placesWithin_14 ?_
      refine V_iload_n (Y := m_X6_placesWithin) (pc := 17) 3 dX6_placesWithin_17 rfl ?_
      obtain ⟨hi1, hf⟩ := g_if hf
      refine V_iald (Y := m_X6_placesWithin) (pc := 18) (wtC.1 _ _ ha0 2 _ rfl) hi1 dX6_placesWithin_18 ?_
      refine V_iload_n (Y := m_X6_placesWithin) (pc := 19) 1 dX6_placesWithin_19 rfl ?_
      obtain ⟨q2, hq2, hf⟩ := g_bind hf
      refine V_cSNi (Y := m_X6_placesWithin) (pc := 20) (As := [.int (M (rfC a0 2) (ix x3)), .int x1]) yf_X9_isBelow (by decide +kernel) (ok_X9_isBelow (M (rfC a0 2) (ix x3)) x1 M _  hq2) tw_473 nw_987 rfl rfl (Nat.le_of_ble_eq_true rfl) dX6_placesWithin_20 ?_
      refine V_if_eq (Y := m_X6_placesWithin) (pc := 23) (tgt := 30) dX6_placesWithin_23 (by decide +kernel) hf (fun hf => ?_) (fun hf => ?_)
      · refine V_iconst (Y := m_X6_placesWithin) (pc := 30) (x := (0 : Int32)) dX6_placesWithin_30 (by decide +kernel) ?_
        exact V_sub [0, 1, 3] rfl (ok_X6_placesWithin_b31 (f_X6_placesWithin_b4  n) ih a0 x1 x3 (0 : Int32) x2 q2.2 z ha0 hf)
      · refine V_iconst (Y := m_X6_placesWithin) (pc := 26) (x := (1 : Int32)) dX6_placesWithin_26 (by decide +kernel) ?_
        refine V_goto (Y := m_X6_placesWithin) (pc := 27) (tgt := 31) dX6_placesWithin_27 (by decide +kernel) ?_
        exact V_sub [0, 1, 3] rfl (ok_X6_placesWithin_b31 (f_X6_placesWithin_b4  n) ih a0 x1 x3 (1 : Int32) x2 q2.2 z ha0 hf)
def f_X6_placesWithin_b0  (a0 : Nat) (x1 : Int32) (M : Mem) : Option (Int32 × Mem) :=
  f_X6_placesWithin_b4  FU a0 x1 (0 : Int32) (0 : Int32) M
set_option maxRecDepth 20000 in
set_option maxHeartbeats 4000000 in
theorem ok_X6_placesWithin_b0 {l : Launch} {g : Gam} {b : Nat}   (a0 : Nat) (x1 : Int32) (M : Mem) (z : Int32 × Mem) (ha0 : shC[a0]? = some (1, 6)) (hf : f_X6_placesWithin_b0 a0 x1 M = some z) : V l g (wC b) m_X6_placesWithin 0 [(0, .ref (b + a0)), (1, .int x1)] [] M (some (.int z.1)) z.2 := by
  unfold f_X6_placesWithin_b0 at hf
  refine V_iconst (Y := m_X6_placesWithin) (pc := 0) (x := (0 : Int32)) dX6_placesWithin_0 (by decide +kernel) ?_
  refine V_istore_n (Y := m_X6_placesWithin) (pc := 1) [(2, .int (0 : Int32)), (0, .ref (b + a0)), (1, .int x1)] dX6_placesWithin_1 (by decide +kernel) rfl ?_
  refine V_iconst (Y := m_X6_placesWithin) (pc := 2) (x := (0 : Int32)) dX6_placesWithin_2 (by decide +kernel) ?_
  refine V_istore_n (Y := m_X6_placesWithin) (pc := 3) [(3, .int (0 : Int32)), (2, .int (0 : Int32)), (0, .ref (b + a0)), (1, .int x1)] dX6_placesWithin_3 (by decide +kernel) rfl ?_
  exact V_sub [2, 3, 1, 0] rfl (ok_X6_placesWithin_b4  FU a0 x1 (0 : Int32) (0 : Int32) M z ha0 hf)
def f_X6_placesWithin (a0 : Nat) (x1 : Int32) (M : Mem) : Option (Int32 × Mem) := f_X6_placesWithin_b0 a0 x1 M
set_option maxRecDepth 20000 in
set_option maxHeartbeats 4000000 in
theorem ok_X6_placesWithin {l : Launch} {g : Gam} {b : Nat} : ∀ (a0 : Nat) (x1 : Int32) (M : Mem) (z : Int32 × Mem), shC[a0]? = some (1, 6) → f_X6_placesWithin a0 x1 M = some z → Cn l g (wC b) m_X6_placesWithin [.ref (b + a0), .int x1] M (some (.int z.1)) z.2 := fun a0 x1 M z ha0 hf => Cn_of (by decide +kernel) (Nat.le_of_ble_eq_true rfl) (V_sub [0, 1] rfl (ok_X6_placesWithin_b0 a0 x1 M z ha0 hf))

abbrev m_X6_smoothen : Mth := (yX6_smoothen, cX6_smoothen, 6, some .int, 2)
theorem yf_X6_smoothen : YF m_X6_smoothen 0 := ⟨tw_891, tw_73, by decide +kernel, by decide +kernel⟩
def f_X6_smoothen_b103 (k11 : Nat → Int32 → Int32 → Int32 → Mem → Option (Int32 × Mem)) (a0 : Nat) (x3 : Int32) (x4 : Int32) (s0 : Int32) (s1 : Int32) (M : Mem) : Option (Int32 × Mem) :=
  k11 a0 (s1 + s0) x4 (x3 + (1 : Int32)) M
set_option maxRecDepth 20000 in
set_option maxHeartbeats 4000000 in
theorem ok_X6_smoothen_b103 {l : Launch} {g : Gam} {b : Nat} (k11 : Nat → Int32 → Int32 → Int32 → Mem → Option (Int32 × Mem)) (hk11 : ∀ (a0 : Nat) (x1 : Int32) (x2 : Int32) (x3 : Int32) (M : Mem) (z : Int32 × Mem), shC[a0]? = some (1, 6) → k11 a0 x1 x2 x3 M = some z → V l g (wC b) m_X6_smoothen 11 [(0, .ref (b + a0)), (1, .int x1), (2, .int x2), (3, .int x3)] [] M (some (.int z.1)) z.2) (a0 : Nat) (x3 : Int32) (x4 : Int32) (s0 : Int32) (s1 : Int32) (M : Mem) (z : Int32 × Mem) (ha0 : shC[a0]? = some (1, 6)) (hf : f_X6_smoothen_b103 k11 a0 x3 x4 s0 s1 M = some z) : V l g (wC b) m_X6_smoothen 103 [(0, .ref (b + a0)), (3, .int x3), (4, .int x4)] [.int s0, .int s1] M (some (.int z.1)) z.2 := by
  unfold f_X6_smoothen_b103 at hf
  refine V_iadd (Y := m_X6_smoothen) (pc := 103) dX6_smoothen_103 ?_
  refine V_istore_n (Y := m_X6_smoothen) (pc := 104) [(1, .int (s1 + s0)), (0, .ref (b + a0)), (3, .int x3), (4, .int x4)] dX6_smoothen_104 (by decide +kernel) rfl ?_
  refine V_iload (Y := m_X6_smoothen) (pc := 105) 3 dX6_smoothen_105 rfl ?_
  refine V_istore_n (Y := m_X6_smoothen) (pc := 107) [(2, .int x4), (1, .int (s1 + s0)), (0, .ref (b + a0)), (3, .int x3), (4, .int x4)] dX6_smoothen_107 (by decide +kernel) rfl ?_
  refine V_iinc (Y := m_X6_smoothen) (pc := 108) (y := (x3 + (1 : Int32))) 3 [(3, .int (x3 + (1 : Int32))), (2, .int x4), (1, .int (s1 + s0)), (0, .ref (b + a0)), (4, .int x4)] dX6_smoothen_108 rfl rfl (by decide +kernel) rfl ?_
  refine V_goto (Y := m_X6_smoothen) (pc := 111) (tgt := 11) dX6_smoothen_111 (by decide +kernel) ?_
  exact V_sub [3, 2, 1, 0] rfl (hk11 a0 (s1 + s0) x4 (x3 + (1 : Int32)) M z ha0 hf)
def f_X6_smoothen_b86 (k11 : Nat → Int32 → Int32 → Int32 → Mem → Option (Int32 × Mem)) (a0 : Nat) (x1 : Int32) (x3 : Int32) (x4 : Int32) (M : Mem) : Option (Int32 × Mem) :=
  if ixb x3 24 = true then
  if (M (rfC a0 2) (ix x3)) = x4 then
    f_X6_smoothen_b103 k11 a0 x3 x4 (0 : Int32) x1 M
  else
    f_X6_smoothen_b103 k11 a0 x3 x4 (1 : Int32) x1 M
  else none
set_option maxRecDepth 20000 in
set_option maxHeartbeats 4000000 in
theorem ok_X6_smoothen_b86 {l : Launch} {g : Gam} {b : Nat} (k11 : Nat → Int32 → Int32 → Int32 → Mem → Option (Int32 × Mem)) (hk11 : ∀ (a0 : Nat) (x1 : Int32) (x2 : Int32) (x3 : Int32) (M : Mem) (z : Int32 × Mem), shC[a0]? = some (1, 6) → k11 a0 x1 x2 x3 M = some z → V l g (wC b) m_X6_smoothen 11 [(0, .ref (b + a0)), (1, .int x1), (2, .int x2), (3, .int x3)] [] M (some (.int z.1)) z.2) (a0 : Nat) (x1 : Int32) (x3 : Int32) (x4 : Int32) (M : Mem) (z : Int32 × Mem) (ha0 : shC[a0]? = some (1, 6)) (hf : f_X6_smoothen_b86 k11 a0 x1 x3 x4 M = some z) : V l g (wC b) m_X6_smoothen 86 [(0, .ref (b + a0)), (1, .int x1), (3, .int x3), (4, .int x4)] [] M (some (.int z.1)) z.2 := by
  unfold f_X6_smoothen_b86 at hf
  refine V_iload_n (Y := m_X6_smoothen) (pc := 86) 1 dX6_smoothen_86 rfl ?_
  refine V_aload_n (Y := m_X6_smoothen) (pc := 87) 0 dX6_smoothen_87 rfl ?_
  refine V_gr (Y := m_X6_smoothen) (pc := 88) 2 kX6 ha0 (by decide +kernel) rfl tw_396 dX6_smoothen_88 ?_
  refine V_iload_n (Y := m_X6_smoothen) (pc := 91) 2 dX6_smoothen_91 rfl ?_
  obtain ⟨hi1, hf⟩ := g_if hf
  refine V_iald (Y := m_X6_smoothen) (pc := 92) (wtC.1 _ _ ha0 2 _ rfl) hi1 dX6_smoothen_92 ?_
  refine V_iload (Y := m_X6_smoothen) (pc := 93) 3 dX6_smoothen_93 rfl ?_
  refine V_icmp_eq (Y := m_X6_smoothen) (pc := 95) (tgt := 102) dX6_smoothen_95 (by decide +kernel) hf (fun hf => ?_) (fun hf => ?_)
  · refine V_iconst (Y := m_X6_smoothen) (pc := 102) (x := (0 : Int32)) dX6_smoothen_102 (by decide +kernel) ?_
    exact V_sub [0, 2, 3] rfl (ok_X6_smoothen_b103 k11 hk11 a0 x3 x4 (0 : Int32) x1 M z ha0 hf)
  · refine V_iconst (Y := m_X6_smoothen) (pc := 98) (x := (1 : Int32)) dX6_smoothen_98 (by decide +kernel) ?_
    refine V_goto (Y := m_X6_smoothen) (pc := 99) (tgt := 103) dX6_smoothen_99 (by decide +kernel) ?_
    exact V_sub [0, 2, 3] rfl (ok_X6_smoothen_b103 k11 hk11 a0 x3 x4 (1 : Int32) x1 M z ha0 hf)
def f_X6_smoothen_b11  : Nat → Nat → Int32 → Int32 → Int32 → Mem → Option (Int32 × Mem)
  | 0, _, _, _, _, _ => none
  | n + 1, a0, x1, x2, x3, M =>
    if ((M a0 1) - (1 : Int32)) ≤ x3 then
      some (x1, M)
    else
      if ixb x3 24 = true then
      if ixb (x3 + (1 : Int32)) 24 = true then
      (f_X6_isFog a0 x2 M).bind fun q3 =>
      if q3.1 = 0 then
        (f_X6_isFog a0 (M (rfC a0 2) (ix x3)) q3.2).bind fun q4 =>
        if q4.1 = 0 then
          (f_X6_isFog a0 (M (rfC a0 2) (ix (x3 + (1 : Int32)))) q4.2).bind fun q5 =>
          if q5.1 = 0 then
            if ixb x3 24 = true then
            f_X6_smoothen_b86 (f_X6_smoothen_b11  n) a0 x1 x3 (M (rfC a0 2) (ix x3)) (mset q5.2 (rfC a0 2) (ix x3) (((x2.toInt64 + (M (rfC a0 2) (ix x3)).toInt64) + (M (rfC a0 2) (ix (x3 + (1 : Int32)))).toInt64) / (3 : Int64)).toInt32)
            else none
          else
            f_X6_smoothen_b86 (f_X6_smoothen_b11  n) a0 x1 x3 (M (rfC a0 2) (ix x3)) q5.2
        else
          f_X6_smoothen_b86 (f_X6_smoothen_b11  n) a0 x1 x3 (M (rfC a0 2) (ix x3)) q4.2
      else
        f_X6_smoothen_b86 (f_X6_smoothen_b11  n) a0 x1 x3 (M (rfC a0 2) (ix x3)) q3.2
      else none
      else none
set_option maxRecDepth 20000 in
set_option maxHeartbeats 4000000 in
theorem ok_X6_smoothen_b11 {l : Launch} {g : Gam} {b : Nat}   : ∀ (n : Nat) (a0 : Nat) (x1 : Int32) (x2 : Int32) (x3 : Int32) (M : Mem) (z : Int32 × Mem), (ha0 : shC[a0]? = some (1, 6)) → f_X6_smoothen_b11  n a0 x1 x2 x3 M = some z → V l g (wC b) m_X6_smoothen 11 [(0, .ref (b + a0)), (1, .int x1), (2, .int x2), (3, .int x3)] [] M (some (.int z.1)) z.2 := by
  intro n
  induction n with
  | zero =>
    intro a0 x1 x2 x3 M z ha0 hf
    cases hf
  | succ n ih =>
    intro a0 x1 x2 x3 M z ha0 hf
    rw [f_X6_smoothen_b11] at hf
    refine V_iload_n (Y := m_X6_smoothen) (pc := 11) 3 dX6_smoothen_11 rfl ?_
    refine V_aload_n (Y := m_X6_smoothen) (pc := 12) 0 dX6_smoothen_12 rfl ?_
    refine V_gi (Y := m_X6_smoothen) (pc := 13) 1 kX6 ha0 (by decide +kernel) rfl tw_394 dX6_smoothen_13 ?_
    refine V_iconst (Y := m_X6_smoothen) (pc := 16) (x := (1 : Int32)) dX6_smoothen_16 (by decide +kernel) ?_
    refine V_isub (Y := m_X6_smoothen) (pc := 17) dX6_smoothen_17 ?_
    refine V_icmp_ge (Y := m_X6_smoothen) (pc := 18) (tgt := 114) dX6_smoothen_18 (by decide +kernel) hf (fun hf => ?_) (fun hf => ?_)
    · refine V_iload_n (Y := m_X6_smoothen) (pc := 114) 1 dX6_smoothen_114 rfl ?_
      obtain rfl := Option.some.inj hf
      exact V_iret (Y := m_X6_smoothen) rfl dX6_smoothen_115
    · refine V_aload_n (Y := m_X6_smoothen) (pc := 21) 0 dX6_smoothen_21 rfl ?_
      refine V_gr (Y := m_X6_smoothen) (pc := 22) 2 kX6 ha0 (by decide +kernel) rfl tw_396 dX6_smoothen_22 ?_
      refine V_iload_n (Y := m_X6_smoothen) (pc := 25) 3 dX6_smoothen_25 rfl ?_
      obtain ⟨hi1, hf⟩ := g_if hf
      refine V_iald (Y := m_X6_smoothen) (pc := 26) (wtC.1 _ _ ha0 2 _ rfl) hi1 dX6_smoothen_26 ?_
      refine V_istore (Y := m_X6_smoothen) (pc := 27) [(4, .int (M (rfC a0 2) (ix x3))), (0, .ref (b + a0)), (1, .int x1), (2, .int x2), (3, .int x3)] dX6_smoothen_27 (by decide +kernel) rfl ?_
      refine V_aload_n (Y := m_X6_smoothen) (pc := 29) 1 dX6_smoothen_29 rfl ?_
      refine V_gr (Y := m_X6_smoothen) (pc := 30) 2 kX6 ha0 (by decide +kernel) rfl tw_396 dX6_smoothen_30 ?_
      refine V_iload_n (Y := m_X6_smoothen) (pc := 33) 4 dX6_smoothen_33 rfl ?_
      refine V_iconst (Y := m_X6_smoothen) (pc := 34) (x := (1 : Int32)) dX6_smoothen_34 (by decide +kernel) ?_
      refine V_iadd (Y := m_X6_smoothen) (pc := 35) dX6_smoothen_35 ?_
      obtain ⟨hi2, hf⟩ := g_if hf
      refine V_iald (Y := m_X6_smoothen) (pc := 36) (wtC.1 _ _ ha0 2 _ rfl) hi2 dX6_smoothen_36 ?_
      refine V_istore (Y := m_X6_smoothen) (pc := 37) [(5, .int (M (rfC a0 2) (ix (x3 + (1 : Int32))))), (4, .int (M (rfC a0 2) (ix x3))), (0, .ref (b + a0)), (1, .int x1), (2, .int x2), (3, .int x3)] dX6_smoothen_37 (by decide +kernel) rfl ?_
      refine V_aload_n (Y := m_X6_smoothen) (pc := 39) 2 dX6_smoothen_39 rfl ?_
      refine V_iload_n (Y := m_X6_smoothen) (pc := 40) 4 dX6_smoothen_40 rfl ?_
      obtain ⟨q3, hq3, hf⟩ := g_bind hf
      refine V_cVi (Y := m_X6_smoothen) (pc := 41) (As := [.int x2]) yf_X6_isFog kX6 ha0 (by decide +kernel) (ok_X6_isFog a0 x2 M _ ha0 hq3) tw_893 tw_894 tw_892 rfl rfl (Nat.le_of_ble_eq_true rfl) dX6_smoothen_41 ?_
      refine V_if_ne (Y := m_X6_smoothen) (pc := 44) (tgt := 86) dX6_smoothen_44 (by decide +kernel) hf (fun hf => ?_) (fun hf => ?_)
      · exact V_sub [2, 3, 5, 1] rfl (ok_X6_smoothen_b86 (f_X6_smoothen_b11  n) ih a0 x1 x3 (M (rfC a0 2) (ix x3)) q3.2 z ha0 hf)
      · refine V_aload_n (Y := m_X6_smoothen) (pc := 47) 2 dX6_smoothen_47 rfl ?_
        refine V_iload (Y := m_X6_smoothen) (pc := 48) 1 dX6_smoothen_48 rfl ?_
        obtain ⟨q4, hq4, hf⟩ := g_bind hf
        refine V_cVi (Y := m_X6_smoothen) (pc := 50) (As := [.int (M (rfC a0 2) (ix x3))]) yf_X6_isFog kX6 ha0 (by decide +kernel) (ok_X6_isFog a0 (M (rfC a0 2) (ix x3)) q3.2 _ ha0 hq4) tw_893 tw_894 tw_892 rfl rfl (Nat.le_of_ble_eq_true rfl) dX6_smoothen_50 ?_
        refine V_if_ne (Y := m_X6_smoothen) (pc := 53) (tgt := 86) dX6_smoothen_53 (by decide +kernel) hf (fun hf => ?_) (fun hf => ?_)
        · exact V_sub [2, 3, 5, 1] rfl (ok_X6_smoothen_b86 (f_X6_smoothen_b11  n) ih a0 x1 x3 (M (rfC a0 2) (ix x3)) q4.2 z ha0 hf)
        · refine V_aload_n (Y := m_X6_smoothen) (pc := 56) 2 dX6_smoothen_56 rfl ?_
          refine V_iload (Y := m_X6_smoothen) (pc := 57) 0 dX6_smoothen_57 rfl ?_
          obtain ⟨q5, hq5, hf⟩ := g_bind hf
          refine V_cVi (Y := m_X6_smoothen) (pc := 59) (As := [.int (M (rfC a0 2) (ix (x3 + (1 : Int32))))]) yf_X6_isFog kX6 ha0 (by decide +kernel) (ok_X6_isFog a0 (M (rfC a0 2) (ix (x3 + (1 : Int32)))) q4.2 _ ha0 hq5) tw_893 tw_894 tw_892 rfl rfl (Nat.le_of_ble_eq_true rfl) dX6_smoothen_59 ?_
          refine V_if_ne (Y := m_X6_smoothen) (pc := 62) (tgt := 86) dX6_smoothen_62 (by decide +kernel) hf (fun hf => ?_) (fun hf => ?_)
          · exact V_sub [2, 3, 5, 1] rfl (ok_X6_smoothen_b86 (f_X6_smoothen_b11  n) ih a0 x1 x3 (M (rfC a0 2) (ix x3)) q5.2 z ha0 hf)
          · refine V_aload_n (Y := m_X6_smoothen) (pc := 65) 2 dX6_smoothen_65 rfl ?_
            refine V_gr (Y := m_X6_smoothen) (pc := 66) 2 kX6 ha0 (by decide +kernel) rfl tw_396 dX6_smoothen_66 ?_
            refine V_iload_n (Y := m_X6_smoothen) (pc := 69) 5 dX6_smoothen_69 rfl ?_
            refine V_iload_n (Y := m_X6_smoothen) (pc := 70) 4 dX6_smoothen_70 rfl ?_
            refine V_i2l (Y := m_X6_smoothen) (pc := 71) dX6_smoothen_71 ?_
            refine V_iload (Y := m_X6_smoothen) (pc := 72) 1 dX6_smoothen_72 rfl ?_
            refine V_i2l (Y := m_X6_smoothen) (pc := 74) dX6_smoothen_74 ?_
            refine V_ladd (Y := m_X6_smoothen) (pc := 75) dX6_smoothen_75 ?_
            refine V_iload (Y := m_X6_smoothen) (pc := 76) 0 dX6_smoothen_76 rfl ?_
            refine V_i2l (Y := m_X6_smoothen) (pc := 78) dX6_smoothen_78 ?_
            refine V_ladd (Y := m_X6_smoothen) (pc := 79) dX6_smoothen_79 ?_
            refine V_ldc2 (Y := m_X6_smoothen) (pc := 80) (x := (3 : Int64)) dX6_smoothen_80 tw_897 ?_
            refine V_ldiv (Y := m_X6_smoothen) (pc := 83) dX6_smoothen_83 (by decide +kernel) ?_
            refine V_l2i (Y := m_X6_smoothen) (pc := 84) dX6_smoothen_84 ?_
            obtain ⟨hi6, hf⟩ := g_if hf
            refine V_iast (Y := m_X6_smoothen) (pc := 85) (wtC.1 _ _ ha0 2 _ rfl) hi6 dX6_smoothen_85 ?_
            exact V_sub [2, 3, 5, 1] rfl (ok_X6_smoothen_b86 (f_X6_smoothen_b11  n) ih a0 x1 x3 (M (rfC a0 2) (ix x3)) (mset q5.2 (rfC a0 2) (ix x3) (((x2.toInt64 + (M (rfC a0 2) (ix x3)).toInt64) + (M (rfC a0 2) (ix (x3 + (1 : Int32)))).toInt64) / (3 : Int64)).toInt32) z ha0 hf)
def f_X6_smoothen_b0  (a0 : Nat) (M : Mem) : Option (Int32 × Mem) :=
  f_X6_smoothen_b11  FU a0 (0 : Int32) (M (rfC a0 2) 0) (1 : Int32) M
set_option maxRecDepth 20000 in
set_option maxHeartbeats 4000000 in
theorem ok_X6_smoothen_b0 {l : Launch} {g : Gam} {b : Nat}   (a0 : Nat) (M : Mem) (z : Int32 × Mem) (ha0 : shC[a0]? = some (1, 6)) (hf : f_X6_smoothen_b0 a0 M = some z) : V l g (wC b) m_X6_smoothen 0 [(0, .ref (b + a0))] [] M (some (.int z.1)) z.2 := by
  unfold f_X6_smoothen_b0 at hf
  refine V_iconst (Y := m_X6_smoothen) (pc := 0) (x := (0 : Int32)) dX6_smoothen_0 (by decide +kernel) ?_
  refine V_istore_n (Y := m_X6_smoothen) (pc := 1) [(1, .int (0 : Int32)), (0, .ref (b + a0))] dX6_smoothen_1 (by decide +kernel) rfl ?_
  refine V_aload_n (Y := m_X6_smoothen) (pc := 2) 1 dX6_smoothen_2 rfl ?_
  refine V_gr (Y := m_X6_smoothen) (pc := 3) 2 kX6 ha0 (by decide +kernel) rfl tw_396 dX6_smoothen_3 ?_
  refine V_iconst (Y := m_X6_smoothen) (pc := 6) (x := (0 : Int32)) dX6_smoothen_6 (by decide +kernel) ?_
  refine V_ialdL (Y := m_X6_smoothen) (pc := 7) (j := 0) (wtC.1 _ _ ha0 2 _ rfl) (by decide +kernel) rfl dX6_smoothen_7 ?_
  refine V_istore_n (Y := m_X6_smoothen) (pc := 8) [(2, .int (M (rfC a0 2) 0)), (1, .int (0 : Int32)), (0, .ref (b + a0))] dX6_smoothen_8 (by decide +kernel) rfl ?_
  refine V_iconst (Y := m_X6_smoothen) (pc := 9) (x := (1 : Int32)) dX6_smoothen_9 (by decide +kernel) ?_
  refine V_istore_n (Y := m_X6_smoothen) (pc := 10) [(3, .int (1 : Int32)), (2, .int (M (rfC a0 2) 0)), (1, .int (0 : Int32)), (0, .ref (b + a0))] dX6_smoothen_10 (by decide +kernel) rfl ?_
  exact V_sub [3, 2, 1, 0] rfl (ok_X6_smoothen_b11  FU a0 (0 : Int32) (M (rfC a0 2) 0) (1 : Int32) M z ha0 hf)
def f_X6_smoothen (a0 : Nat) (M : Mem) : Option (Int32 × Mem) := f_X6_smoothen_b0 a0 M
set_option maxRecDepth 20000 in
set_option maxHeartbeats 4000000 in
theorem ok_X6_smoothen {l : Launch} {g : Gam} {b : Nat} : ∀ (a0 : Nat) (M : Mem) (z : Int32 × Mem), shC[a0]? = some (1, 6) → f_X6_smoothen a0 M = some z → Cn l g (wC b) m_X6_smoothen [.ref (b + a0)] M (some (.int z.1)) z.2 := fun a0 M z ha0 hf => Cn_of (by decide +kernel) (Nat.le_of_ble_eq_true rfl) (V_sub [0] rfl (ok_X6_smoothen_b0 a0 M z ha0 hf))

abbrev m_X8_takeFrom : Mth := (yX8_takeFrom, cX8_takeFrom, 2, none, 1)
theorem yf_X8_takeFrom : YF m_X8_takeFrom 1 := ⟨tw_699, tw_70, by decide +kernel, by decide +kernel⟩
def f_X8_takeFrom_bc24_1  (a0 : Nat) (M : Mem) : Option (Int32 × Mem) :=
  if cpyb (0 : Int32) (0 : Int32) ((mset M a0 3 (M 1 9)) a0 3) 96 96 = true then
  some (0, (mcpy (mset M a0 3 (M 1 9)) 3 (ix (0 : Int32)) (rfC a0 4) (ix (0 : Int32)) (ix ((mset M a0 3 (M 1 9)) a0 3))))
  else none
set_option maxRecDepth 20000 in
set_option maxHeartbeats 4000000 in
theorem ok_X8_takeFrom_bc24_1 {l : Launch} {g : Gam} {b : Nat}   (a0 : Nat) (M : Mem) (z : Int32 × Mem) (ha0 : shC[a0]? = some (1, 8)) (hf : f_X8_takeFrom_bc24_1 a0 M = some z) : V l g (wC b) m_X8_takeFrom 24 [(0, .ref (b + a0)), (1, .ref (b + 1))] [] M none z.2 := by
  unfold f_X8_takeFrom_bc24_1 at hf
  refine V_aload_n (Y := m_X8_takeFrom) (pc := 24) 0 dX8_takeFrom_24 rfl ?_
  refine V_aload_n (Y := m_X8_takeFrom) (pc := 25) 1 dX8_takeFrom_25 rfl ?_
  refine V_gi (Y := m_X8_takeFrom) (pc := 26) 9 kX4 sC_1 (by decide +kernel) rfl tw_111 dX8_takeFrom_26 ?_
  refine V_pi (Y := m_X8_takeFrom) (pc := 29) 3 kX8 ha0 (by decide +kernel) rfl rfl rfl tw_255 dX8_takeFrom_29 ?_
  refine V_aload_n (Y := m_X8_takeFrom) (pc := 32) 1 dX8_takeFrom_32 rfl ?_
  refine V_grL (Y := m_X8_takeFrom) (pc := 33) (x := 3) 12 kX4 sC_1 (by decide +kernel) rfl rfl tw_116 dX8_takeFrom_33 ?_
  refine V_iconst (Y := m_X8_takeFrom) (pc := 36) (x := (0 : Int32)) dX8_takeFrom_36 (by decide +kernel) ?_
  refine V_aload_n (Y := m_X8_takeFrom) (pc := 37) 0 dX8_takeFrom_37 rfl ?_
  refine V_gr (Y := m_X8_takeFrom) (pc := 38) 4 kX8 ha0 (by decide +kernel) rfl tw_256 dX8_takeFrom_38 ?_
  refine V_iconst (Y := m_X8_takeFrom) (pc := 41) (x := (0 : Int32)) dX8_takeFrom_41 (by decide +kernel) ?_
  refine V_aload_n (Y := m_X8_takeFrom) (pc := 42) 0 dX8_takeFrom_42 rfl ?_
  refine V_gi (Y := m_X8_takeFrom) (pc := 43) 3 kX8 ha0 (by decide +kernel) rfl tw_255 dX8_takeFrom_43 ?_
  obtain ⟨hi1, hf⟩ := g_if hf
  refine V_copy (Y := m_X8_takeFrom) (pc := 46) (by decide +kernel) j_copy tw_700 (Nat.le_of_ble_eq_true rfl) sC_3 (wtC.1 _ _ ha0 4 _ rfl) hi1 dX8_takeFrom_46 ?_
  obtain rfl := Option.some.inj hf
  exact V_vret (Y := m_X8_takeFrom) rfl dX8_takeFrom_49
def f_X8_takeFrom_b0  (a0 : Nat) (M : Mem) : Option (Int32 × Mem) :=
  f_X8_takeFrom_bc24_1  a0 (mset (mset (mset M a0 0 (M 1 6)) a0 1 ((mset M a0 0 (M 1 6)) 1 7)) a0 2 ((mset (mset M a0 0 (M 1 6)) a0 1 ((mset M a0 0 (M 1 6)) 1 7)) 1 8))
set_option maxRecDepth 20000 in
set_option maxHeartbeats 4000000 in
theorem ok_X8_takeFrom_b0 {l : Launch} {g : Gam} {b : Nat}   (a0 : Nat) (M : Mem) (z : Int32 × Mem) (ha0 : shC[a0]? = some (1, 8)) (hf : f_X8_takeFrom_b0 a0 M = some z) : V l g (wC b) m_X8_takeFrom 0 [(0, .ref (b + a0)), (1, .ref (b + 1))] [] M none z.2 := by
  unfold f_X8_takeFrom_b0 at hf
  refine V_aload_n (Y := m_X8_takeFrom) (pc := 0) 0 dX8_takeFrom_0 rfl ?_
  refine V_aload_n (Y := m_X8_takeFrom) (pc := 1) 1 dX8_takeFrom_1 rfl ?_
  refine V_gi (Y := m_X8_takeFrom) (pc := 2) 6 kX4 sC_1 (by decide +kernel) rfl tw_105 dX8_takeFrom_2 ?_
  refine V_pi (Y := m_X8_takeFrom) (pc := 5) 0 kX8 ha0 (by decide +kernel) rfl rfl rfl tw_247 dX8_takeFrom_5 ?_
  refine V_aload_n (Y := m_X8_takeFrom) (pc := 8) 0 dX8_takeFrom_8 rfl ?_
  refine V_aload_n (Y := m_X8_takeFrom) (pc := 9) 1 dX8_takeFrom_9 rfl ?_
  refine V_gi (Y := m_X8_takeFrom) (pc := 10) 7 kX4 sC_1 (by decide +kernel) rfl tw_107 dX8_takeFrom_10 ?_
  refine V_pi (Y := m_X8_takeFrom) (pc := 13) 1 kX8 ha0 (by decide +kernel) rfl rfl rfl tw_250 dX8_takeFrom_13 ?_
  refine V_aload_n (Y := m_X8_takeFrom) (pc := 16) 0 dX8_takeFrom_16 rfl ?_
  refine V_aload_n (Y := m_X8_takeFrom) (pc := 17) 1 dX8_takeFrom_17 rfl ?_
  refine V_gi (Y := m_X8_takeFrom) (pc := 18) 8 kX4 sC_1 (by decide +kernel) rfl tw_109 dX8_takeFrom_18 ?_
  refine V_pi (Y := m_X8_takeFrom) (pc := 21) 2 kX8 ha0 (by decide +kernel) rfl rfl rfl tw_253 dX8_takeFrom_21 ?_
  exact V_sub [0, 1] rfl (ok_X8_takeFrom_bc24_1  a0 (mset (mset (mset M a0 0 (M 1 6)) a0 1 ((mset M a0 0 (M 1 6)) 1 7)) a0 2 ((mset (mset M a0 0 (M 1 6)) a0 1 ((mset M a0 0 (M 1 6)) 1 7)) 1 8)) z ha0 hf)
def f_X8_takeFrom (a0 : Nat) (M : Mem) : Option (Int32 × Mem) := f_X8_takeFrom_b0 a0 M
set_option maxRecDepth 20000 in
set_option maxHeartbeats 4000000 in
theorem ok_X8_takeFrom {l : Launch} {g : Gam} {b : Nat} : ∀ (a0 : Nat) (M : Mem) (z : Int32 × Mem), shC[a0]? = some (1, 8) → f_X8_takeFrom a0 M = some z → Cn l g (wC b) m_X8_takeFrom [.ref (b + a0), .ref (b + 1)] M none z.2 := fun a0 M z ha0 hf => Cn_of (by decide +kernel) (Nat.le_of_ble_eq_true rfl) (V_sub [0, 1] rfl (ok_X8_takeFrom_b0 a0 M z ha0 hf))

abbrev m_X9_isWhen : Mth := (yX9_isWhen, cX9_isWhen, 1, some .boolean, 2)
theorem yf_X9_isWhen : YF m_X9_isWhen 1 := ⟨tw_477, tw_65, by decide +kernel, by decide +kernel⟩
def f_X9_isWhen_b0  (x0 : Int32) (M : Mem) : Option (Int32 × Mem) :=
  (f_X9_isBelow x0 (300 : Int32) M).bind fun q1 =>
  if z01 q1.1 = true then some (q1.1, q1.2) else none
set_option maxRecDepth 20000 in
set_option maxHeartbeats 4000000 in
theorem ok_X9_isWhen_b0 {l : Launch} {g : Gam} {b : Nat}   (x0 : Int32) (M : Mem) (z : Int32 × Mem)  (hf : f_X9_isWhen_b0 x0 M = some z) : V l g (wC b) m_X9_isWhen 0 [(0, .int x0)] [] M (some (.int z.1)) z.2 := by
  unfold f_X9_isWhen_b0 at hf
  refine V_iload_n (Y := m_X9_isWhen) (pc := 0) 0 dX9_isWhen_0 rfl ?_
  refine V_sipush (Y := m_X9_isWhen) (pc := 1) (x := (300 : Int32)) dX9_isWhen_1 (by decide +kernel) ?_
  obtain ⟨q1, hq1, hf⟩ := g_bind hf
  refine V_cSi (Y := m_X9_isWhen) (pc := 4) (As := [.int x0, .int (300 : Int32)]) yf_X9_isBelow (by decide +kernel) (ok_X9_isBelow x0 (300 : Int32) M _  hq1) tw_473 tw_472 rfl rfl (Nat.le_of_ble_eq_true rfl) dX9_isWhen_4 ?_
  obtain ⟨hz2, hf⟩ := g_if hf
  obtain rfl := Option.some.inj hf
  exact V_zret (Y := m_X9_isWhen) hz2 rfl dX9_isWhen_7
def f_X9_isWhen (x0 : Int32) (M : Mem) : Option (Int32 × Mem) := f_X9_isWhen_b0 x0 M
set_option maxRecDepth 20000 in
set_option maxHeartbeats 4000000 in
theorem ok_X9_isWhen {l : Launch} {g : Gam} {b : Nat} : ∀ (x0 : Int32) (M : Mem) (z : Int32 × Mem), f_X9_isWhen x0 M = some z → Cn l g (wC b) m_X9_isWhen [.int x0] M (some (.int z.1)) z.2 := fun x0 M z  hf => Cn_of (by decide +kernel) (Nat.le_of_ble_eq_true rfl) (V_sub [0] rfl (ok_X9_isWhen_b0 x0 M z  hf))

abbrev m_X9_mark : Mth := (yX9_mark, cX9_mark, 5, some .int, 3)
theorem yf_X9_mark : YF m_X9_mark 4 := ⟨tw_469, tw_65, by decide +kernel, by decide +kernel⟩
def f_X9_mark_b0  (x1 : Int32) (x2 : Int32) (x3 : Int32) (x4 : Int32) (M : Mem) : Option (Int32 × Mem) :=
  (f_X9_isBelow x1 (8 : Int32) M).bind fun q1 =>
  if q1.1 = 0 then
    some ((-1000000001 : Int32), q1.2)
  else
    (f_X9_isWhen x2 q1.2).bind fun q2 =>
    if q2.1 = 0 then
      some ((-1000000001 : Int32), q2.2)
    else
      (f_X9_isBelow x3 (1000 : Int32) q2.2).bind fun q3 =>
      if q3.1 = 0 then
        some ((-1000000001 : Int32), q3.2)
      else
        (f_X9_isWithin x4 (-99 : Int32) (99 : Int32) q3.2).bind fun q4 =>
        if q4.1 = 0 then
          some ((-1000000001 : Int32), q4.2)
        else
          if (q4.2 48 9) < (24 : Int32) then
            (f_X0_addMark 48 x1 x2 x3 x4 q4.2).bind fun q5 =>
            some (q5.1, q5.2)
          else
            some ((-1000000003 : Int32), q4.2)
set_option maxRecDepth 20000 in
set_option maxHeartbeats 4000000 in
theorem ok_X9_mark_b0 {l : Launch} {g : Gam} {b : Nat}   (x1 : Int32) (x2 : Int32) (x3 : Int32) (x4 : Int32) (M : Mem) (z : Int32 × Mem)  (hf : f_X9_mark_b0 x1 x2 x3 x4 M = some z) : V l g (wC b) m_X9_mark 0 [(0, .ref (b + 0)), (1, .int x1), (2, .int x2), (3, .int x3), (4, .int x4)] [] M (some (.int z.1)) z.2 := by
  unfold f_X9_mark_b0 at hf
  refine V_iload_n (Y := m_X9_mark) (pc := 0) 1 dX9_mark_0 rfl ?_
  refine V_gsA (Y := m_X9_mark) (pc := 1) tw_470 dX9_mark_1 ?_
  refine V_alenA (Y := m_X9_mark) (pc := 4) dX9_mark_4 ?_
  obtain ⟨q1, hq1, hf⟩ := g_bind hf
  refine V_cSi (Y := m_X9_mark) (pc := 5) (As := [.int x1, .int (8 : Int32)]) yf_X9_isBelow (by decide +kernel) (ok_X9_isBelow x1 (8 : Int32) M _  hq1) tw_473 tw_472 rfl rfl (Nat.le_of_ble_eq_true rfl) dX9_mark_5 ?_
  refine V_if_eq (Y := m_X9_mark) (pc := 8) (tgt := 40) dX9_mark_8 (by decide +kernel) hf (fun hf => ?_) (fun hf => ?_)
  · refine V_ldc (Y := m_X9_mark) (pc := 40) (x := (-1000000001 : Int32)) dX9_mark_40 tw_481 ?_
    obtain rfl := Option.some.inj hf
    exact V_iret (Y := m_X9_mark) rfl dX9_mark_42
  · refine V_iload_n (Y := m_X9_mark) (pc := 11) 2 dX9_mark_11 rfl ?_
    obtain ⟨q2, hq2, hf⟩ := g_bind hf
    refine V_cSi (Y := m_X9_mark) (pc := 12) (As := [.int x2]) yf_X9_isWhen (by decide +kernel) (ok_X9_isWhen x2 q1.2 _  hq2) tw_476 tw_475 rfl rfl (Nat.le_of_ble_eq_true rfl) dX9_mark_12 ?_
    refine V_if_eq (Y := m_X9_mark) (pc := 15) (tgt := 40) dX9_mark_15 (by decide +kernel) hf (fun hf => ?_) (fun hf => ?_)
    · refine V_ldc (Y := m_X9_mark) (pc := 40) (x := (-1000000001 : Int32)) dX9_mark_40 tw_481 ?_
      obtain rfl := Option.some.inj hf
      exact V_iret (Y := m_X9_mark) rfl dX9_mark_42
    · refine V_iload_n (Y := m_X9_mark) (pc := 18) 3 dX9_mark_18 rfl ?_
      refine V_sipush (Y := m_X9_mark) (pc := 19) (x := (1000 : Int32)) dX9_mark_19 (by decide +kernel) ?_
      obtain ⟨q3, hq3, hf⟩ := g_bind hf
      refine V_cSi (Y := m_X9_mark) (pc := 22) (As := [.int x3, .int (1000 : Int32)]) yf_X9_isBelow (by decide +kernel) (ok_X9_isBelow x3 (1000 : Int32) q2.2 _  hq3) tw_473 tw_472 rfl rfl (Nat.le_of_ble_eq_true rfl) dX9_mark_22 ?_
      refine V_if_eq (Y := m_X9_mark) (pc := 25) (tgt := 40) dX9_mark_25 (by decide +kernel) hf (fun hf => ?_) (fun hf => ?_)
      · refine V_ldc (Y := m_X9_mark) (pc := 40) (x := (-1000000001 : Int32)) dX9_mark_40 tw_481 ?_
        obtain rfl := Option.some.inj hf
        exact V_iret (Y := m_X9_mark) rfl dX9_mark_42
      · refine V_iload (Y := m_X9_mark) (pc := 28) 4 dX9_mark_28 rfl ?_
        refine V_bipush (Y := m_X9_mark) (pc := 30) (x := (-99 : Int32)) dX9_mark_30 (by decide +kernel) ?_
        refine V_bipush (Y := m_X9_mark) (pc := 32) (x := (99 : Int32)) dX9_mark_32 (by decide +kernel) ?_
        obtain ⟨q4, hq4, hf⟩ := g_bind hf
        refine V_cSi (Y := m_X9_mark) (pc := 34) (As := [.int x4, .int (-99 : Int32), .int (99 : Int32)]) yf_X9_isWithin (by decide +kernel) (ok_X9_isWithin x4 (-99 : Int32) (99 : Int32) q3.2 _  hq4) tw_479 tw_478 rfl rfl (Nat.le_of_ble_eq_true rfl) dX9_mark_34 ?_
        refine V_if_ne (Y := m_X9_mark) (pc := 37) (tgt := 43) dX9_mark_37 (by decide +kernel) hf (fun hf => ?_) (fun hf => ?_)
        · refine V_aload_n (Y := m_X9_mark) (pc := 43) 0 dX9_mark_43 rfl ?_
          refine V_grL (Y := m_X9_mark) (pc := 44) (x := 48) 1 kX9 sC_0 (by decide +kernel) rfl rfl tw_430 dX9_mark_44 ?_
          refine V_gi (Y := m_X9_mark) (pc := 47) 9 kX0 sC_48 (by decide +kernel) rfl tw_352 dX9_mark_47 ?_
          refine V_bipush (Y := m_X9_mark) (pc := 50) (x := (24 : Int32)) dX9_mark_50 (by decide +kernel) ?_
          refine V_icmp_lt (Y := m_X9_mark) (pc := 52) (tgt := 60) dX9_mark_52 (by decide +kernel) hf (fun hf => ?_) (fun hf => ?_)
          · refine V_aload_n (Y := m_X9_mark) (pc := 60) 0 dX9_mark_60 rfl ?_
            refine V_grL (Y := m_X9_mark) (pc := 61) (x := 48) 1 kX9 sC_0 (by decide +kernel) rfl rfl tw_430 dX9_mark_61 ?_
            refine V_iload_n (Y := m_X9_mark) (pc := 64) 1 dX9_mark_64 rfl ?_
            refine V_iload_n (Y := m_X9_mark) (pc := 65) 2 dX9_mark_65 rfl ?_
            refine V_iload_n (Y := m_X9_mark) (pc := 66) 3 dX9_mark_66 rfl ?_
            refine V_iload (Y := m_X9_mark) (pc := 67) 4 dX9_mark_67 rfl ?_
            obtain ⟨q5, hq5, hf⟩ := g_bind hf
            refine V_cVi (Y := m_X9_mark) (pc := 69) (As := [.int x1, .int x2, .int x3, .int x4]) yf_X0_addMark kX0 sC_48 (by decide +kernel) (ok_X0_addMark 48 x1 x2 x3 x4 q4.2 _ sC_48 hq5) tw_484 tw_485 tw_483 rfl rfl (Nat.le_of_ble_eq_true rfl) dX9_mark_69 ?_
            obtain rfl := Option.some.inj hf
            exact V_iret (Y := m_X9_mark) rfl dX9_mark_72
          · refine V_ldc (Y := m_X9_mark) (pc := 55) (x := (-1000000003 : Int32)) dX9_mark_55 tw_482 ?_
            refine V_goto (Y := m_X9_mark) (pc := 57) (tgt := 72) dX9_mark_57 (by decide +kernel) ?_
            obtain rfl := Option.some.inj hf
            exact V_iret (Y := m_X9_mark) rfl dX9_mark_72
        · refine V_ldc (Y := m_X9_mark) (pc := 40) (x := (-1000000001 : Int32)) dX9_mark_40 tw_481 ?_
          obtain rfl := Option.some.inj hf
          exact V_iret (Y := m_X9_mark) rfl dX9_mark_42
def f_X9_mark (x1 : Int32) (x2 : Int32) (x3 : Int32) (x4 : Int32) (M : Mem) : Option (Int32 × Mem) := f_X9_mark_b0 x1 x2 x3 x4 M
set_option maxRecDepth 20000 in
set_option maxHeartbeats 4000000 in
theorem ok_X9_mark {l : Launch} {g : Gam} {b : Nat} : ∀ (x1 : Int32) (x2 : Int32) (x3 : Int32) (x4 : Int32) (M : Mem) (z : Int32 × Mem), f_X9_mark x1 x2 x3 x4 M = some z → Cn l g (wC b) m_X9_mark [.ref (b + 0), .int x1, .int x2, .int x3, .int x4] M (some (.int z.1)) z.2 := fun x1 x2 x3 x4 M z  hf => Cn_of (by decide +kernel) (Nat.le_of_ble_eq_true rfl) (V_sub [0, 1, 2, 3, 4] rfl (ok_X9_mark_b0 x1 x2 x3 x4 M z  hf))

abbrev m_X9_told : Mth := (yX9_told, cX9_told, 4, some .int, 6)
theorem yf_X9_told : YF m_X9_told 2 := ⟨tw_496, tw_65, by decide +kernel, by decide +kernel⟩
def f_X9_told_b0  (x1 : Int32) (x2 : Int32) (M : Mem) : Option (Int32 × Mem) :=
  (f_X9_isBelow x1 (M 48 9) M).bind fun q1 =>
  if q1.1 = 0 then
    some ((-1000000001 : Int32), q1.2)
  else
    if ixb x1 24 = true then
    if x2 = (0 : Int32) then
      some ((q1.2 (rfC 49 (ix x1)) 0), q1.2)
    else
    if x2 = (1 : Int32) then
      some ((q1.2 (rfC 49 (ix x1)) 1), q1.2)
    else
    if x2 = (2 : Int32) then
      some ((q1.2 (rfC 49 (ix x1)) 2), q1.2)
    else
    if x2 = (3 : Int32) then
      some ((q1.2 (rfC 49 (ix x1)) 3), q1.2)
    else
    if x2 = (4 : Int32) then
      some ((q1.2 (rfC 49 (ix x1)) 4), q1.2)
    else
    if x2 = (5 : Int32) then
      some ((q1.2 (rfC 49 (ix x1)) 5), q1.2)
    else
    if x2 = (6 : Int32) then
      (f_X0_saysOf 48 (rfC 49 (ix x1)) q1.2).bind fun q10 =>
      some (q10.1, q10.2)
    else
    if x2 = (7 : Int32) then
      (f_X2_span (rfC 49 (ix x1)) q1.2).bind fun q12 =>
      some (q12.1, q12.2)
    else
    if x2 = (8 : Int32) then
      (f_X9_worthOf (q1.2 (rfC 49 (ix x1)) 0) q1.2).bind fun q14 =>
      some (q14.1, q14.2)
    else
    if x2 = (9 : Int32) then
      some ((q1.2 (rfC 49 (ix x1)) 6), q1.2)
    else
    if x2 = (10 : Int32) then
      (f_X0_logOf 48 (rfC 49 (ix x1)) q1.2).bind fun q17 =>
      some (q17.1, q17.2)
    else
    if x2 = (11 : Int32) then
      (f_X0_needleOf 48 (rfC 49 (ix x1)) q1.2).bind fun q19 =>
      some (q19.1, q19.2)
    else
    if x2 = (12 : Int32) then
      (f_X0_watchOf 48 (rfC 49 (ix x1)) q1.2).bind fun q21 =>
      some (q21.1, q21.2)
    else
    some ((-1000000001 : Int32), q1.2)
    else none
set_option maxRecDepth 20000 in
set_option maxHeartbeats 4000000 in
theorem ok_X9_told_b0 {l : Launch} {g : Gam} {b : Nat}   (x1 : Int32) (x2 : Int32) (M : Mem) (z : Int32 × Mem)  (hf : f_X9_told_b0 x1 x2 M = some z) : V l g (wC b) m_X9_told 0 [(0, .ref (b + 0)), (1, .int x1), (2, .int x2)] [] M (some (.int z.1)) z.2 := by
  unfold f_X9_told_b0 at hf
  refine V_iload_n (Y := m_X9_told) (pc := 0) 1 dX9_told_0 rfl ?_
  refine V_aload_n (Y := m_X9_told) (pc := 1) 0 dX9_told_1 rfl ?_
  refine V_grL (Y := m_X9_told) (pc := 2) (x := 48) 1 kX9 sC_0 (by decide +kernel) rfl rfl tw_430 dX9_told_2 ?_
  refine V_gi (Y := m_X9_told) (pc := 5) 9 kX0 sC_48 (by decide +kernel) rfl tw_352 dX9_told_5 ?_
  obtain ⟨q1, hq1, hf⟩ := g_bind hf
  refine V_cSi (Y := m_X9_told) (pc := 8) (As := [.int x1, .int (M 48 9)]) yf_X9_isBelow (by decide +kernel) (ok_X9_isBelow x1 (M 48 9) M _  hq1) tw_473 tw_472 rfl rfl (Nat.le_of_ble_eq_true rfl) dX9_told_8 ?_
  refine V_if_ne (Y := m_X9_told) (pc := 11) (tgt := 17) dX9_told_11 (by decide +kernel) hf (fun hf => ?_) (fun hf => ?_)
  · refine V_aload_n (Y := m_X9_told) (pc := 17) 0 dX9_told_17 rfl ?_
    refine V_grL (Y := m_X9_told) (pc := 18) (x := 48) 1 kX9 sC_0 (by decide +kernel) rfl rfl tw_430 dX9_told_18 ?_
    refine V_grL (Y := m_X9_told) (pc := 21) (x := 49) 0 kX0 sC_48 (by decide +kernel) rfl rfl tw_332 dX9_told_21 ?_
    refine V_iload_n (Y := m_X9_told) (pc := 24) 1 dX9_told_24 rfl ?_
    obtain ⟨hi2, hf⟩ := g_if hf
    refine V_aald (Y := m_X9_told) (pc := 25) 1 rfl sC_49 hi2 dX9_told_25 ?_
    refine V_astore_n (Y := m_X9_told) (pc := 26) [(3, .ref (b + (rfC 49 (ix x1)))), (0, .ref (b + 0)), (1, .int x1), (2, .int x2)] dX9_told_26 (by decide +kernel) rfl ?_
    refine V_iload_n (Y := m_X9_told) (pc := 27) 3 dX9_told_27 rfl ?_
    by_cases hc3 : x2 = (0 : Int32)
    · rw [if_pos hc3] at hf
      refine V_tsw (Y := m_X9_told) (pc := 28) (tgt := 96) (0 : Int32) hc3 dX9_told_28 (by decide +kernel) ?_
      refine V_aload_n (Y := m_X9_told) (pc := 96) 0 dX9_told_96 rfl ?_
      refine V_gi (Y := m_X9_told) (pc := 97) 0 kX2 (wtC.2 _ _ _ sC_49 _ (ixb_lt hi2)) (by decide +kernel) rfl tw_284 dX9_told_97 ?_
      obtain rfl := Option.some.inj hf
      exact V_iret (Y := m_X9_told) rfl dX9_told_100
    rw [if_neg hc3] at hf
    by_cases hc4 : x2 = (1 : Int32)
    · rw [if_pos hc4] at hf
      refine V_tsw (Y := m_X9_told) (pc := 28) (tgt := 101) (1 : Int32) hc4 dX9_told_28 (by decide +kernel) ?_
      refine V_aload_n (Y := m_X9_told) (pc := 101) 0 dX9_told_101 rfl ?_
      refine V_gi (Y := m_X9_told) (pc := 102) 1 kX2 (wtC.2 _ _ _ sC_49 _ (ixb_lt hi2)) (by decide +kernel) rfl tw_289 dX9_told_102 ?_
      obtain rfl := Option.some.inj hf
      exact V_iret (Y := m_X9_told) rfl dX9_told_105
    rw [if_neg hc4] at hf
    by_cases hc5 : x2 = (2 : Int32)
    · rw [if_pos hc5] at hf
      refine V_tsw (Y := m_X9_told) (pc := 28) (tgt := 106) (2 : Int32) hc5 dX9_told_28 (by decide +kernel) ?_
      refine V_aload_n (Y := m_X9_told) (pc := 106) 0 dX9_told_106 rfl ?_
      refine V_gi (Y := m_X9_told) (pc := 107) 2 kX2 (wtC.2 _ _ _ sC_49 _ (ixb_lt hi2)) (by decide +kernel) rfl tw_293 dX9_told_107 ?_
      obtain rfl := Option.some.inj hf
      exact V_iret (Y := m_X9_told) rfl dX9_told_110
    rw [if_neg hc5] at hf
    by_cases hc6 : x2 = (3 : Int32)
    · rw [if_pos hc6] at hf
      refine V_tsw (Y := m_X9_told) (pc := 28) (tgt := 111) (3 : Int32) hc6 dX9_told_28 (by decide +kernel) ?_
      refine V_aload_n (Y := m_X9_told) (pc := 111) 0 dX9_told_111 rfl ?_
      refine V_gi (Y := m_X9_told) (pc := 112) 3 kX2 (wtC.2 _ _ _ sC_49 _ (ixb_lt hi2)) (by decide +kernel) rfl tw_298 dX9_told_112 ?_
      obtain rfl := Option.some.inj hf
      exact V_iret (Y := m_X9_told) rfl dX9_told_115
    rw [if_neg hc6] at hf
    by_cases hc7 : x2 = (4 : Int32)
    · rw [if_pos hc7] at hf
      refine V_tsw (Y := m_X9_told) (pc := 28) (tgt := 116) (4 : Int32) hc7 dX9_told_28 (by decide +kernel) ?_
      refine V_aload_n (Y := m_X9_told) (pc := 116) 0 dX9_told_116 rfl ?_
      refine V_gi (Y := m_X9_told) (pc := 117) 4 kX2 (wtC.2 _ _ _ sC_49 _ (ixb_lt hi2)) (by decide +kernel) rfl tw_303 dX9_told_117 ?_
      obtain rfl := Option.some.inj hf
      exact V_iret (Y := m_X9_told) rfl dX9_told_120
    rw [if_neg hc7] at hf
    by_cases hc8 : x2 = (5 : Int32)
    · rw [if_pos hc8] at hf
      refine V_tsw (Y := m_X9_told) (pc := 28) (tgt := 121) (5 : Int32) hc8 dX9_told_28 (by decide +kernel) ?_
      refine V_aload_n (Y := m_X9_told) (pc := 121) 0 dX9_told_121 rfl ?_
      refine V_gi (Y := m_X9_told) (pc := 122) 5 kX2 (wtC.2 _ _ _ sC_49 _ (ixb_lt hi2)) (by decide +kernel) rfl tw_308 dX9_told_122 ?_
      obtain rfl := Option.some.inj hf
      exact V_iret (Y := m_X9_told) rfl dX9_told_125
    rw [if_neg hc8] at hf
    by_cases hc9 : x2 = (6 : Int32)
    · rw [if_pos hc9] at hf
      refine V_tsw (Y := m_X9_told) (pc := 28) (tgt := 126) (6 : Int32) hc9 dX9_told_28 (by decide +kernel) ?_
      refine V_aload_n (Y := m_X9_told) (pc := 126) 1 dX9_told_126 rfl ?_
      refine V_grL (Y := m_X9_told) (pc := 127) (x := 48) 1 kX9 sC_0 (by decide +kernel) rfl rfl tw_430 dX9_told_127 ?_
      refine V_aload_n (Y := m_X9_told) (pc := 130) 0 dX9_told_130 rfl ?_
      obtain ⟨q10, hq10, hf⟩ := g_bind hf
      refine V_cVi (Y := m_X9_told) (pc := 131) (As := [.ref (b + (rfC 49 (ix x1)))]) yf_X0_saysOf kX0 sC_48 (by decide +kernel) (ok_X0_saysOf 48 (rfC 49 (ix x1)) q1.2 _ sC_48 (wtC.2 _ _ _ sC_49 _ (ixb_lt hi2)) hq10) tw_498 tw_499 tw_497 rfl rfl (Nat.le_of_ble_eq_true rfl) dX9_told_131 ?_
      obtain rfl := Option.some.inj hf
      exact V_iret (Y := m_X9_told) rfl dX9_told_134
    rw [if_neg hc9] at hf
    by_cases hc11 : x2 = (7 : Int32)
    · rw [if_pos hc11] at hf
      refine V_tsw (Y := m_X9_told) (pc := 28) (tgt := 135) (7 : Int32) hc11 dX9_told_28 (by decide +kernel) ?_
      refine V_aload_n (Y := m_X9_told) (pc := 135) 0 dX9_told_135 rfl ?_
      obtain ⟨q12, hq12, hf⟩ := g_bind hf
      refine V_cVi (Y := m_X9_told) (pc := 136) (As := []) yf_X2_span kX2 (wtC.2 _ _ _ sC_49 _ (ixb_lt hi2)) (by decide +kernel) (ok_X2_span (rfC 49 (ix x1)) q1.2 _ (wtC.2 _ _ _ sC_49 _ (ixb_lt hi2)) hq12) tw_541 tw_542 tw_540 rfl rfl (Nat.le_of_ble_eq_true rfl) dX9_told_136 ?_
      obtain rfl := Option.some.inj hf
      exact V_iret (Y := m_X9_told) rfl dX9_told_139
    rw [if_neg hc11] at hf
    by_cases hc13 : x2 = (8 : Int32)
    · rw [if_pos hc13] at hf
      refine V_tsw (Y := m_X9_told) (pc := 28) (tgt := 140) (8 : Int32) hc13 dX9_told_28 (by decide +kernel) ?_
      refine V_aload_n (Y := m_X9_told) (pc := 140) 0 dX9_told_140 rfl ?_
      refine V_gi (Y := m_X9_told) (pc := 141) 0 kX2 (wtC.2 _ _ _ sC_49 _ (ixb_lt hi2)) (by decide +kernel) rfl tw_284 dX9_told_141 ?_
      obtain ⟨q14, hq14, hf⟩ := g_bind hf
      refine V_cSi (Y := m_X9_told) (pc := 144) (As := [.int (q1.2 (rfC 49 (ix x1)) 0)]) yf_X9_worthOf (by decide +kernel) (ok_X9_worthOf (q1.2 (rfC 49 (ix x1)) 0) q1.2 _  hq14) tw_545 tw_544 rfl rfl (Nat.le_of_ble_eq_true rfl) dX9_told_144 ?_
      obtain rfl := Option.some.inj hf
      exact V_iret (Y := m_X9_told) rfl dX9_told_147
    rw [if_neg hc13] at hf
    by_cases hc15 : x2 = (9 : Int32)
    · rw [if_pos hc15] at hf
      refine V_tsw (Y := m_X9_told) (pc := 28) (tgt := 148) (9 : Int32) hc15 dX9_told_28 (by decide +kernel) ?_
      refine V_aload_n (Y := m_X9_told) (pc := 148) 0 dX9_told_148 rfl ?_
      refine V_gi (Y := m_X9_told) (pc := 149) 6 kX2 (wtC.2 _ _ _ sC_49 _ (ixb_lt hi2)) (by decide +kernel) rfl tw_311 dX9_told_149 ?_
      obtain rfl := Option.some.inj hf
      exact V_iret (Y := m_X9_told) rfl dX9_told_152
    rw [if_neg hc15] at hf
    by_cases hc16 : x2 = (10 : Int32)
    · rw [if_pos hc16] at hf
      refine V_tsw (Y := m_X9_told) (pc := 28) (tgt := 153) (10 : Int32) hc16 dX9_told_28 (by decide +kernel) ?_
      refine V_aload_n (Y := m_X9_told) (pc := 153) 1 dX9_told_153 rfl ?_
      refine V_grL (Y := m_X9_told) (pc := 154) (x := 48) 1 kX9 sC_0 (by decide +kernel) rfl rfl tw_430 dX9_told_154 ?_
      refine V_aload_n (Y := m_X9_told) (pc := 157) 0 dX9_told_157 rfl ?_
      obtain ⟨q17, hq17, hf⟩ := g_bind hf
      refine V_cVi (Y := m_X9_told) (pc := 158) (As := [.ref (b + (rfC 49 (ix x1)))]) yf_X0_logOf kX0 sC_48 (by decide +kernel) (ok_X0_logOf 48 (rfC 49 (ix x1)) q1.2 _ sC_48 (wtC.2 _ _ _ sC_49 _ (ixb_lt hi2)) hq17) tw_502 tw_503 tw_547 rfl rfl (Nat.le_of_ble_eq_true rfl) dX9_told_158 ?_
      obtain rfl := Option.some.inj hf
      exact V_iret (Y := m_X9_told) rfl dX9_told_161
    rw [if_neg hc16] at hf
    by_cases hc18 : x2 = (11 : Int32)
    · rw [if_pos hc18] at hf
      refine V_tsw (Y := m_X9_told) (pc := 28) (tgt := 162) (11 : Int32) hc18 dX9_told_28 (by decide +kernel) ?_
      refine V_aload_n (Y := m_X9_told) (pc := 162) 1 dX9_told_162 rfl ?_
      refine V_grL (Y := m_X9_told) (pc := 163) (x := 48) 1 kX9 sC_0 (by decide +kernel) rfl rfl tw_430 dX9_told_163 ?_
      refine V_aload_n (Y := m_X9_told) (pc := 166) 0 dX9_told_166 rfl ?_
      obtain ⟨q19, hq19, hf⟩ := g_bind hf
      refine V_cVi (Y := m_X9_told) (pc := 167) (As := [.ref (b + (rfC 49 (ix x1)))]) yf_X0_needleOf kX0 sC_48 (by decide +kernel) (ok_X0_needleOf 48 (rfC 49 (ix x1)) q1.2 _ sC_48 (wtC.2 _ _ _ sC_49 _ (ixb_lt hi2)) hq19) tw_530 tw_531 tw_548 rfl rfl (Nat.le_of_ble_eq_true rfl) dX9_told_167 ?_
      obtain rfl := Option.some.inj hf
      exact V_iret (Y := m_X9_told) rfl dX9_told_170
    rw [if_neg hc18] at hf
    by_cases hc20 : x2 = (12 : Int32)
    · rw [if_pos hc20] at hf
      refine V_tsw (Y := m_X9_told) (pc := 28) (tgt := 171) (12 : Int32) hc20 dX9_told_28 (by decide +kernel) ?_
      refine V_aload_n (Y := m_X9_told) (pc := 171) 1 dX9_told_171 rfl ?_
      refine V_grL (Y := m_X9_told) (pc := 172) (x := 48) 1 kX9 sC_0 (by decide +kernel) rfl rfl tw_430 dX9_told_172 ?_
      refine V_aload_n (Y := m_X9_told) (pc := 175) 0 dX9_told_175 rfl ?_
      obtain ⟨q21, hq21, hf⟩ := g_bind hf
      refine V_cVi (Y := m_X9_told) (pc := 176) (As := [.ref (b + (rfC 49 (ix x1)))]) yf_X0_watchOf kX0 sC_48 (by decide +kernel) (ok_X0_watchOf 48 (rfC 49 (ix x1)) q1.2 _ sC_48 (wtC.2 _ _ _ sC_49 _ (ixb_lt hi2)) hq21) tw_534 tw_535 tw_549 rfl rfl (Nat.le_of_ble_eq_true rfl) dX9_told_176 ?_
      obtain rfl := Option.some.inj hf
      exact V_iret (Y := m_X9_told) rfl dX9_told_179
    rw [if_neg hc20] at hf
    refine V_tswO (Y := m_X9_told) (pc := 28) (tgt := 180) [(0 : Int32), (1 : Int32), (2 : Int32), (3 : Int32), (4 : Int32), (5 : Int32), (6 : Int32), (7 : Int32), (8 : Int32), (9 : Int32), (10 : Int32), (11 : Int32), (12 : Int32)] (List.forall_mem_cons.mpr ⟨hc3, (List.forall_mem_cons.mpr ⟨hc4, (List.forall_mem_cons.mpr ⟨hc5, (List.forall_mem_cons.mpr ⟨hc6, (List.forall_mem_cons.mpr ⟨hc7, (List.forall_mem_cons.mpr ⟨hc8, (List.forall_mem_cons.mpr ⟨hc9, (List.forall_mem_cons.mpr ⟨hc11, (List.forall_mem_cons.mpr ⟨hc13, (List.forall_mem_cons.mpr ⟨hc15, (List.forall_mem_cons.mpr ⟨hc16, (List.forall_mem_cons.mpr ⟨hc18, (List.forall_mem_cons.mpr ⟨hc20, (fun _ h => absurd h List.not_mem_nil)⟩)⟩)⟩)⟩)⟩)⟩)⟩)⟩)⟩)⟩)⟩)⟩)⟩) dX9_told_28 (by decide +kernel) (by decide +kernel) ?_
    refine V_ldc (Y := m_X9_told) (pc := 180) (x := (-1000000001 : Int32)) dX9_told_180 tw_481 ?_
    obtain rfl := Option.some.inj hf
    exact V_iret (Y := m_X9_told) rfl dX9_told_182
  · refine V_ldc (Y := m_X9_told) (pc := 14) (x := (-1000000001 : Int32)) dX9_told_14 tw_481 ?_
    obtain rfl := Option.some.inj hf
    exact V_iret (Y := m_X9_told) rfl dX9_told_16
def f_X9_told (x1 : Int32) (x2 : Int32) (M : Mem) : Option (Int32 × Mem) := f_X9_told_b0 x1 x2 M
set_option maxRecDepth 20000 in
set_option maxHeartbeats 4000000 in
theorem ok_X9_told {l : Launch} {g : Gam} {b : Nat} : ∀ (x1 : Int32) (x2 : Int32) (M : Mem) (z : Int32 × Mem), f_X9_told x1 x2 M = some z → Cn l g (wC b) m_X9_told [.ref (b + 0), .int x1, .int x2] M (some (.int z.1)) z.2 := fun x1 x2 M z  hf => Cn_of (by decide +kernel) (Nat.le_of_ble_eq_true rfl) (V_sub [0, 1, 2] rfl (ok_X9_told_b0 x1 x2 M z  hf))

abbrev m_X9_as : Mth := (yX9_as, cX9_as, 4, some .int, 2)
theorem yf_X9_as : YF m_X9_as 2 := ⟨tw_553, tw_65, by decide +kernel, by decide +kernel⟩
def f_X9_as_b0  (x1 : Int32) (x2 : Int32) (M : Mem) : Option (Int32 × Mem) :=
  (f_X9_isBelow x1 (M 48 9) M).bind fun q1 =>
  if q1.1 = 0 then
    some ((-1000000001 : Int32), q1.2)
  else
    (f_X9_isBelow x2 (8 : Int32) q1.2).bind fun q2 =>
    if q2.1 = 0 then
      some ((-1000000001 : Int32), q2.2)
    else
      if ixb x1 24 = true then
      (f_X9_isUnder (q2.2 (rfC 49 (ix x1)) 0) x2 q2.2).bind fun q4 =>
      if q4.1 = 0 then
        some ((-1000000012 : Int32), q4.2)
      else
        some ((q4.2 (rfC 49 (ix x1)) 3), q4.2)
      else none
set_option maxRecDepth 20000 in
set_option maxHeartbeats 4000000 in
theorem ok_X9_as_b0 {l : Launch} {g : Gam} {b : Nat}   (x1 : Int32) (x2 : Int32) (M : Mem) (z : Int32 × Mem)  (hf : f_X9_as_b0 x1 x2 M = some z) : V l g (wC b) m_X9_as 0 [(0, .ref (b + 0)), (1, .int x1), (2, .int x2)] [] M (some (.int z.1)) z.2 := by
  unfold f_X9_as_b0 at hf
  refine V_iload_n (Y := m_X9_as) (pc := 0) 1 dX9_as_0 rfl ?_
  refine V_aload_n (Y := m_X9_as) (pc := 1) 0 dX9_as_1 rfl ?_
  refine V_grL (Y := m_X9_as) (pc := 2) (x := 48) 1 kX9 sC_0 (by decide +kernel) rfl rfl tw_430 dX9_as_2 ?_
  refine V_gi (Y := m_X9_as) (pc := 5) 9 kX0 sC_48 (by decide +kernel) rfl tw_352 dX9_as_5 ?_
  obtain ⟨q1, hq1, hf⟩ := g_bind hf
  refine V_cSi (Y := m_X9_as) (pc := 8) (As := [.int x1, .int (M 48 9)]) yf_X9_isBelow (by decide +kernel) (ok_X9_isBelow x1 (M 48 9) M _  hq1) tw_473 tw_472 rfl rfl (Nat.le_of_ble_eq_true rfl) dX9_as_8 ?_
  refine V_if_eq (Y := m_X9_as) (pc := 11) (tgt := 25) dX9_as_11 (by decide +kernel) hf (fun hf => ?_) (fun hf => ?_)
  · refine V_ldc (Y := m_X9_as) (pc := 25) (x := (-1000000001 : Int32)) dX9_as_25 tw_481 ?_
    obtain rfl := Option.some.inj hf
    exact V_iret (Y := m_X9_as) rfl dX9_as_27
  · refine V_iload_n (Y := m_X9_as) (pc := 14) 2 dX9_as_14 rfl ?_
    refine V_gsA (Y := m_X9_as) (pc := 15) tw_470 dX9_as_15 ?_
    refine V_alenA (Y := m_X9_as) (pc := 18) dX9_as_18 ?_
    obtain ⟨q2, hq2, hf⟩ := g_bind hf
    refine V_cSi (Y := m_X9_as) (pc := 19) (As := [.int x2, .int (8 : Int32)]) yf_X9_isBelow (by decide +kernel) (ok_X9_isBelow x2 (8 : Int32) q1.2 _  hq2) tw_473 tw_472 rfl rfl (Nat.le_of_ble_eq_true rfl) dX9_as_19 ?_
    refine V_if_ne (Y := m_X9_as) (pc := 22) (tgt := 28) dX9_as_22 (by decide +kernel) hf (fun hf => ?_) (fun hf => ?_)
    · refine V_aload_n (Y := m_X9_as) (pc := 28) 0 dX9_as_28 rfl ?_
      refine V_grL (Y := m_X9_as) (pc := 29) (x := 48) 1 kX9 sC_0 (by decide +kernel) rfl rfl tw_430 dX9_as_29 ?_
      refine V_grL (Y := m_X9_as) (pc := 32) (x := 49) 0 kX0 sC_48 (by decide +kernel) rfl rfl tw_332 dX9_as_32 ?_
      refine V_iload_n (Y := m_X9_as) (pc := 35) 1 dX9_as_35 rfl ?_
      obtain ⟨hi3, hf⟩ := g_if hf
      refine V_aald (Y := m_X9_as) (pc := 36) 1 rfl sC_49 hi3 dX9_as_36 ?_
      refine V_astore_n (Y := m_X9_as) (pc := 37) [(3, .ref (b + (rfC 49 (ix x1)))), (0, .ref (b + 0)), (1, .int x1), (2, .int x2)] dX9_as_37 (by decide +kernel) rfl ?_
      refine V_aload_n (Y := m_X9_as) (pc := 38) 0 dX9_as_38 rfl ?_
      refine V_gi (Y := m_X9_as) (pc := 39) 0 kX2 (wtC.2 _ _ _ sC_49 _ (ixb_lt hi3)) (by decide +kernel) rfl tw_284 dX9_as_39 ?_
      refine V_iload_n (Y := m_X9_as) (pc := 42) 3 dX9_as_42 rfl ?_
      obtain ⟨q4, hq4, hf⟩ := g_bind hf
      refine V_cSi (Y := m_X9_as) (pc := 43) (As := [.int (q2.2 (rfC 49 (ix x1)) 0), .int x2]) yf_X9_isUnder (by decide +kernel) (ok_X9_isUnder (q2.2 (rfC 49 (ix x1)) 0) x2 q2.2 _  hq4) tw_555 tw_554 rfl rfl (Nat.le_of_ble_eq_true rfl) dX9_as_43 ?_
      refine V_if_eq (Y := m_X9_as) (pc := 46) (tgt := 56) dX9_as_46 (by decide +kernel) hf (fun hf => ?_) (fun hf => ?_)
      · refine V_ldc (Y := m_X9_as) (pc := 56) (x := (-1000000012 : Int32)) dX9_as_56 tw_557 ?_
        obtain rfl := Option.some.inj hf
        exact V_iret (Y := m_X9_as) rfl dX9_as_58
      · refine V_aload_n (Y := m_X9_as) (pc := 49) 0 dX9_as_49 rfl ?_
        refine V_gi (Y := m_X9_as) (pc := 50) 3 kX2 (wtC.2 _ _ _ sC_49 _ (ixb_lt hi3)) (by decide +kernel) rfl tw_298 dX9_as_50 ?_
        refine V_goto (Y := m_X9_as) (pc := 53) (tgt := 58) dX9_as_53 (by decide +kernel) ?_
        obtain rfl := Option.some.inj hf
        exact V_iret (Y := m_X9_as) rfl dX9_as_58
    · refine V_ldc (Y := m_X9_as) (pc := 25) (x := (-1000000001 : Int32)) dX9_as_25 tw_481 ?_
      obtain rfl := Option.some.inj hf
      exact V_iret (Y := m_X9_as) rfl dX9_as_27
def f_X9_as (x1 : Int32) (x2 : Int32) (M : Mem) : Option (Int32 × Mem) := f_X9_as_b0 x1 x2 M
set_option maxRecDepth 20000 in
set_option maxHeartbeats 4000000 in
theorem ok_X9_as {l : Launch} {g : Gam} {b : Nat} : ∀ (x1 : Int32) (x2 : Int32) (M : Mem) (z : Int32 × Mem), f_X9_as x1 x2 M = some z → Cn l g (wC b) m_X9_as [.ref (b + 0), .int x1, .int x2] M (some (.int z.1)) z.2 := fun x1 x2 M z  hf => Cn_of (by decide +kernel) (Nat.le_of_ble_eq_true rfl) (V_sub [0, 1, 2] rfl (ok_X9_as_b0 x1 x2 M z  hf))

abbrev m_X9_put : Mth := (yX9_put, cX9_put, 5, some .int, 2)
theorem yf_X9_put : YF m_X9_put 2 := ⟨tw_561, tw_65, by decide +kernel, by decide +kernel⟩
def f_X9_put_b54  (x4 : Int32) (s0 : Int32) (t1 : Nat) (M : Mem) : Option (Int32 × Mem) :=
  some (x4, (mset M t1 5 s0))
set_option maxRecDepth 20000 in
set_option maxHeartbeats 4000000 in
theorem ok_X9_put_b54 {l : Launch} {g : Gam} {b : Nat}   (x4 : Int32) (s0 : Int32) (t1 : Nat) (M : Mem) (z : Int32 × Mem) (ht1 : shC[t1]? = some (1, 2)) (hf : f_X9_put_b54 x4 s0 t1 M = some z) : V l g (wC b) m_X9_put 54 [(4, .int x4)] [.int s0, .ref (b + t1)] M (some (.int z.1)) z.2 := by
  unfold f_X9_put_b54 at hf
  refine V_pi (Y := m_X9_put) (pc := 54) 5 kX2 ht1 (by decide +kernel) rfl rfl rfl tw_308 dX9_put_54 ?_
  refine V_iload (Y := m_X9_put) (pc := 57) 0 dX9_put_57 rfl ?_
  obtain rfl := Option.some.inj hf
  exact V_iret (Y := m_X9_put) rfl dX9_put_59
def f_X9_put_b0  (x1 : Int32) (x2 : Int32) (M : Mem) : Option (Int32 × Mem) :=
  (f_X9_isBelow x1 (M 48 9) M).bind fun q1 =>
  if q1.1 = 0 then
    some ((-1000000001 : Int32), q1.2)
  else
    (f_X9_isWithin x2 (-1 : Int32) (8 : Int32) q1.2).bind fun q2 =>
    if q2.1 = 0 then
      some ((-1000000001 : Int32), q2.2)
    else
      if ixb x1 24 = true then
      if 0 ≤ x2 then
        f_X9_put_b54  (q2.2 (rfC 49 (ix x1)) 5) x2 (rfC 49 (ix x1)) q2.2
      else
        f_X9_put_b54  (q2.2 (rfC 49 (ix x1)) 5) (-1000000005 : Int32) (rfC 49 (ix x1)) q2.2
      else none
set_option maxRecDepth 20000 in
set_option maxHeartbeats 4000000 in
theorem ok_X9_put_b0 {l : Launch} {g : Gam} {b : Nat}   (x1 : Int32) (x2 : Int32) (M : Mem) (z : Int32 × Mem)  (hf : f_X9_put_b0 x1 x2 M = some z) : V l g (wC b) m_X9_put 0 [(0, .ref (b + 0)), (1, .int x1), (2, .int x2)] [] M (some (.int z.1)) z.2 := by
  unfold f_X9_put_b0 at hf
  refine V_iload_n (Y := m_X9_put) (pc := 0) 1 dX9_put_0 rfl ?_
  refine V_aload_n (Y := m_X9_put) (pc := 1) 0 dX9_put_1 rfl ?_
  refine V_grL (Y := m_X9_put) (pc := 2) (x := 48) 1 kX9 sC_0 (by decide +kernel) rfl rfl tw_430 dX9_put_2 ?_
  refine V_gi (Y := m_X9_put) (pc := 5) 9 kX0 sC_48 (by decide +kernel) rfl tw_352 dX9_put_5 ?_
  obtain ⟨q1, hq1, hf⟩ := g_bind hf
  refine V_cSi (Y := m_X9_put) (pc := 8) (As := [.int x1, .int (M 48 9)]) yf_X9_isBelow (by decide +kernel) (ok_X9_isBelow x1 (M 48 9) M _  hq1) tw_473 tw_472 rfl rfl (Nat.le_of_ble_eq_true rfl) dX9_put_8 ?_
  refine V_if_eq (Y := m_X9_put) (pc := 11) (tgt := 24) dX9_put_11 (by decide +kernel) hf (fun hf => ?_) (fun hf => ?_)
  · refine V_ldc (Y := m_X9_put) (pc := 24) (x := (-1000000001 : Int32)) dX9_put_24 tw_481 ?_
    obtain rfl := Option.some.inj hf
    exact V_iret (Y := m_X9_put) rfl dX9_put_26
  · refine V_iload_n (Y := m_X9_put) (pc := 14) 2 dX9_put_14 rfl ?_
    refine V_iconst (Y := m_X9_put) (pc := 15) (x := (-1 : Int32)) dX9_put_15 (by decide +kernel) ?_
    refine V_bipush (Y := m_X9_put) (pc := 16) (x := (8 : Int32)) dX9_put_16 (by decide +kernel) ?_
    obtain ⟨q2, hq2, hf⟩ := g_bind hf
    refine V_cSi (Y := m_X9_put) (pc := 18) (As := [.int x2, .int (-1 : Int32), .int (8 : Int32)]) yf_X9_isWithin (by decide +kernel) (ok_X9_isWithin x2 (-1 : Int32) (8 : Int32) q1.2 _  hq2) tw_479 tw_478 rfl rfl (Nat.le_of_ble_eq_true rfl) dX9_put_18 ?_
    refine V_if_ne (Y := m_X9_put) (pc := 21) (tgt := 27) dX9_put_21 (by decide +kernel) hf (fun hf => ?_) (fun hf => ?_)
    · refine V_aload_n (Y := m_X9_put) (pc := 27) 0 dX9_put_27 rfl ?_
      refine V_grL (Y := m_X9_put) (pc := 28) (x := 48) 1 kX9 sC_0 (by decide +kernel) rfl rfl tw_430 dX9_put_28 ?_
      refine V_grL (Y := m_X9_put) (pc := 31) (x := 49) 0 kX0 sC_48 (by decide +kernel) rfl rfl tw_332 dX9_put_31 ?_
      refine V_iload_n (Y := m_X9_put) (pc := 34) 1 dX9_put_34 rfl ?_
      obtain ⟨hi3, hf⟩ := g_if hf
      refine V_aald (Y := m_X9_put) (pc := 35) 1 rfl sC_49 hi3 dX9_put_35 ?_
      refine V_astore_n (Y := m_X9_put) (pc := 36) [(3, .ref (b + (rfC 49 (ix x1)))), (0, .ref (b + 0)), (1, .int x1), (2, .int x2)] dX9_put_36 (by decide +kernel) rfl ?_
      refine V_aload_n (Y := m_X9_put) (pc := 37) 0 dX9_put_37 rfl ?_
      refine V_gi (Y := m_X9_put) (pc := 38) 5 kX2 (wtC.2 _ _ _ sC_49 _ (ixb_lt hi3)) (by decide +kernel) rfl tw_308 dX9_put_38 ?_
      refine V_istore (Y := m_X9_put) (pc := 41) [(4, .int (q2.2 (rfC 49 (ix x1)) 5)), (3, .ref (b + (rfC 49 (ix x1)))), (0, .ref (b + 0)), (1, .int x1), (2, .int x2)] dX9_put_41 (by decide +kernel) rfl ?_
      refine V_aload_n (Y := m_X9_put) (pc := 43) 1 dX9_put_43 rfl ?_
      refine V_iload_n (Y := m_X9_put) (pc := 44) 4 dX9_put_44 rfl ?_
      refine V_if_ge (Y := m_X9_put) (pc := 45) (tgt := 53) dX9_put_45 (by decide +kernel) hf (fun hf => ?_) (fun hf => ?_)
      · refine V_iload_n (Y := m_X9_put) (pc := 53) 4 dX9_put_53 rfl ?_
        exact V_sub [0] rfl (ok_X9_put_b54  (q2.2 (rfC 49 (ix x1)) 5) x2 (rfC 49 (ix x1)) q2.2 z (wtC.2 _ _ _ sC_49 _ (ixb_lt hi3)) hf)
      · refine V_ldc (Y := m_X9_put) (pc := 48) (x := (-1000000005 : Int32)) dX9_put_48 tw_562 ?_
        refine V_goto (Y := m_X9_put) (pc := 50) (tgt := 54) dX9_put_50 (by decide +kernel) ?_
        exact V_sub [0] rfl (ok_X9_put_b54  (q2.2 (rfC 49 (ix x1)) 5) (-1000000005 : Int32) (rfC 49 (ix x1)) q2.2 z (wtC.2 _ _ _ sC_49 _ (ixb_lt hi3)) hf)
    · refine V_ldc (Y := m_X9_put) (pc := 24) (x := (-1000000001 : Int32)) dX9_put_24 tw_481 ?_
      obtain rfl := Option.some.inj hf
      exact V_iret (Y := m_X9_put) rfl dX9_put_26
def f_X9_put (x1 : Int32) (x2 : Int32) (M : Mem) : Option (Int32 × Mem) := f_X9_put_b0 x1 x2 M
set_option maxRecDepth 20000 in
set_option maxHeartbeats 4000000 in
theorem ok_X9_put {l : Launch} {g : Gam} {b : Nat} : ∀ (x1 : Int32) (x2 : Int32) (M : Mem) (z : Int32 × Mem), f_X9_put x1 x2 M = some z → Cn l g (wC b) m_X9_put [.ref (b + 0), .int x1, .int x2] M (some (.int z.1)) z.2 := fun x1 x2 M z  hf => Cn_of (by decide +kernel) (Nat.le_of_ble_eq_true rfl) (V_sub [0, 1, 2] rfl (ok_X9_put_b0 x1 x2 M z  hf))

abbrev m_X9_name : Mth := (yX9_name, cX9_name, 5, some .int, 2)
theorem yf_X9_name : YF m_X9_name 2 := ⟨tw_566, tw_65, by decide +kernel, by decide +kernel⟩
def f_X9_name_b0  (x1 : Int32) (x2 : Int32) (M : Mem) : Option (Int32 × Mem) :=
  (f_X9_isBelow x1 (M 48 9) M).bind fun q1 =>
  if q1.1 = 0 then
    some ((-1000000001 : Int32), q1.2)
  else
    (f_X9_isBelow x2 (10 : Int32) q1.2).bind fun q2 =>
    if q2.1 = 0 then
      some ((-1000000001 : Int32), q2.2)
    else
      if ixb x1 24 = true then
      (f_X9_isUnder (q2.2 (rfC 49 (ix x1)) 0) (6 : Int32) q2.2).bind fun q4 =>
      if q4.1 = 0 then
        some ((-1000000012 : Int32), q4.2)
      else
        some ((q4.2 (rfC 49 (ix x1)) 6), (mset q4.2 (rfC 49 (ix x1)) 6 x2))
      else none
set_option maxRecDepth 20000 in
set_option maxHeartbeats 4000000 in
theorem ok_X9_name_b0 {l : Launch} {g : Gam} {b : Nat}   (x1 : Int32) (x2 : Int32) (M : Mem) (z : Int32 × Mem)  (hf : f_X9_name_b0 x1 x2 M = some z) : V l g (wC b) m_X9_name 0 [(0, .ref (b + 0)), (1, .int x1), (2, .int x2)] [] M (some (.int z.1)) z.2 := by
  unfold f_X9_name_b0 at hf
  refine V_iload_n (Y := m_X9_name) (pc := 0) 1 dX9_name_0 rfl ?_
  refine V_aload_n (Y := m_X9_name) (pc := 1) 0 dX9_name_1 rfl ?_
  refine V_grL (Y := m_X9_name) (pc := 2) (x := 48) 1 kX9 sC_0 (by decide +kernel) rfl rfl tw_430 dX9_name_2 ?_
  refine V_gi (Y := m_X9_name) (pc := 5) 9 kX0 sC_48 (by decide +kernel) rfl tw_352 dX9_name_5 ?_
  obtain ⟨q1, hq1, hf⟩ := g_bind hf
  refine V_cSi (Y := m_X9_name) (pc := 8) (As := [.int x1, .int (M 48 9)]) yf_X9_isBelow (by decide +kernel) (ok_X9_isBelow x1 (M 48 9) M _  hq1) tw_473 tw_472 rfl rfl (Nat.le_of_ble_eq_true rfl) dX9_name_8 ?_
  refine V_if_eq (Y := m_X9_name) (pc := 11) (tgt := 23) dX9_name_11 (by decide +kernel) hf (fun hf => ?_) (fun hf => ?_)
  · refine V_ldc (Y := m_X9_name) (pc := 23) (x := (-1000000001 : Int32)) dX9_name_23 tw_481 ?_
    obtain rfl := Option.some.inj hf
    exact V_iret (Y := m_X9_name) rfl dX9_name_25
  · refine V_iload_n (Y := m_X9_name) (pc := 14) 2 dX9_name_14 rfl ?_
    refine V_bipush (Y := m_X9_name) (pc := 15) (x := (10 : Int32)) dX9_name_15 (by decide +kernel) ?_
    obtain ⟨q2, hq2, hf⟩ := g_bind hf
    refine V_cSi (Y := m_X9_name) (pc := 17) (As := [.int x2, .int (10 : Int32)]) yf_X9_isBelow (by decide +kernel) (ok_X9_isBelow x2 (10 : Int32) q1.2 _  hq2) tw_473 tw_472 rfl rfl (Nat.le_of_ble_eq_true rfl) dX9_name_17 ?_
    refine V_if_ne (Y := m_X9_name) (pc := 20) (tgt := 26) dX9_name_20 (by decide +kernel) hf (fun hf => ?_) (fun hf => ?_)
    · refine V_aload_n (Y := m_X9_name) (pc := 26) 0 dX9_name_26 rfl ?_
      refine V_grL (Y := m_X9_name) (pc := 27) (x := 48) 1 kX9 sC_0 (by decide +kernel) rfl rfl tw_430 dX9_name_27 ?_
      refine V_grL (Y := m_X9_name) (pc := 30) (x := 49) 0 kX0 sC_48 (by decide +kernel) rfl rfl tw_332 dX9_name_30 ?_
      refine V_iload_n (Y := m_X9_name) (pc := 33) 1 dX9_name_33 rfl ?_
      obtain ⟨hi3, hf⟩ := g_if hf
      refine V_aald (Y := m_X9_name) (pc := 34) 1 rfl sC_49 hi3 dX9_name_34 ?_
      refine V_astore_n (Y := m_X9_name) (pc := 35) [(3, .ref (b + (rfC 49 (ix x1)))), (0, .ref (b + 0)), (1, .int x1), (2, .int x2)] dX9_name_35 (by decide +kernel) rfl ?_
      refine V_aload_n (Y := m_X9_name) (pc := 36) 0 dX9_name_36 rfl ?_
      refine V_gi (Y := m_X9_name) (pc := 37) 0 kX2 (wtC.2 _ _ _ sC_49 _ (ixb_lt hi3)) (by decide +kernel) rfl tw_284 dX9_name_37 ?_
      refine V_bipush (Y := m_X9_name) (pc := 40) (x := (6 : Int32)) dX9_name_40 (by decide +kernel) ?_
      obtain ⟨q4, hq4, hf⟩ := g_bind hf
      refine V_cSi (Y := m_X9_name) (pc := 42) (As := [.int (q2.2 (rfC 49 (ix x1)) 0), .int (6 : Int32)]) yf_X9_isUnder (by decide +kernel) (ok_X9_isUnder (q2.2 (rfC 49 (ix x1)) 0) (6 : Int32) q2.2 _  hq4) tw_555 tw_554 rfl rfl (Nat.le_of_ble_eq_true rfl) dX9_name_42 ?_
      refine V_if_ne (Y := m_X9_name) (pc := 45) (tgt := 51) dX9_name_45 (by decide +kernel) hf (fun hf => ?_) (fun hf => ?_)
      · refine V_aload_n (Y := m_X9_name) (pc := 51) 0 dX9_name_51 rfl ?_
        refine V_gi (Y := m_X9_name) (pc := 52) 6 kX2 (wtC.2 _ _ _ sC_49 _ (ixb_lt hi3)) (by decide +kernel) rfl tw_311 dX9_name_52 ?_
        refine V_istore (Y := m_X9_name) (pc := 55) [(4, .int (q4.2 (rfC 49 (ix x1)) 6)), (3, .ref (b + (rfC 49 (ix x1)))), (0, .ref (b + 0)), (1, .int x1), (2, .int x2)] dX9_name_55 (by decide +kernel) rfl ?_
        refine V_aload_n (Y := m_X9_name) (pc := 57) 1 dX9_name_57 rfl ?_
        refine V_iload_n (Y := m_X9_name) (pc := 58) 4 dX9_name_58 rfl ?_
        refine V_pi (Y := m_X9_name) (pc := 59) 6 kX2 (wtC.2 _ _ _ sC_49 _ (ixb_lt hi3)) (by decide +kernel) rfl rfl rfl tw_311 dX9_name_59 ?_
        refine V_iload (Y := m_X9_name) (pc := 62) 0 dX9_name_62 rfl ?_
        obtain rfl := Option.some.inj hf
        exact V_iret (Y := m_X9_name) rfl dX9_name_64
      · refine V_ldc (Y := m_X9_name) (pc := 48) (x := (-1000000012 : Int32)) dX9_name_48 tw_557 ?_
        obtain rfl := Option.some.inj hf
        exact V_iret (Y := m_X9_name) rfl dX9_name_50
    · refine V_ldc (Y := m_X9_name) (pc := 23) (x := (-1000000001 : Int32)) dX9_name_23 tw_481 ?_
      obtain rfl := Option.some.inj hf
      exact V_iret (Y := m_X9_name) rfl dX9_name_25
def f_X9_name (x1 : Int32) (x2 : Int32) (M : Mem) : Option (Int32 × Mem) := f_X9_name_b0 x1 x2 M
set_option maxRecDepth 20000 in
set_option maxHeartbeats 4000000 in
theorem ok_X9_name {l : Launch} {g : Gam} {b : Nat} : ∀ (x1 : Int32) (x2 : Int32) (M : Mem) (z : Int32 × Mem), f_X9_name x1 x2 M = some z → Cn l g (wC b) m_X9_name [.ref (b + 0), .int x1, .int x2] M (some (.int z.1)) z.2 := fun x1 x2 M z  hf => Cn_of (by decide +kernel) (Nat.le_of_ble_eq_true rfl) (V_sub [0, 1, 2] rfl (ok_X9_name_b0 x1 x2 M z  hf))

abbrev m_X9_feed : Mth := (yX9_feed, cX9_feed, 4, some .int, 2)
theorem yf_X9_feed : YF m_X9_feed 3 := ⟨tw_570, tw_65, by decide +kernel, by decide +kernel⟩
def f_X9_feed_b0  (x1 : Int32) (x2 : Int32) (x3 : Int32) (M : Mem) : Option (Int32 × Mem) :=
  if ((M 1 1) + (12 : Int32)) ≤ (96 : Int32) then
    (f_X4_take x1 M).bind fun q1 =>
    (f_X4_take x2 q1.2).bind fun q2 =>
    (f_X4_take x3 q2.2).bind fun q3 =>
    some ((q3.2 1 1), q3.2)
  else
    some ((-1000000003 : Int32), M)
set_option maxRecDepth 20000 in
set_option maxHeartbeats 4000000 in
theorem ok_X9_feed_b0 {l : Launch} {g : Gam} {b : Nat}   (x1 : Int32) (x2 : Int32) (x3 : Int32) (M : Mem) (z : Int32 × Mem)  (hf : f_X9_feed_b0 x1 x2 x3 M = some z) : V l g (wC b) m_X9_feed 0 [(0, .ref (b + 0)), (1, .int x1), (2, .int x2), (3, .int x3)] [] M (some (.int z.1)) z.2 := by
  unfold f_X9_feed_b0 at hf
  refine V_aload_n (Y := m_X9_feed) (pc := 0) 0 dX9_feed_0 rfl ?_
  refine V_grL (Y := m_X9_feed) (pc := 1) (x := 1) 0 kX9 sC_0 (by decide +kernel) rfl rfl tw_429 dX9_feed_1 ?_
  refine V_gi (Y := m_X9_feed) (pc := 4) 1 kX4 sC_1 (by decide +kernel) rfl tw_99 dX9_feed_4 ?_
  refine V_bipush (Y := m_X9_feed) (pc := 7) (x := (12 : Int32)) dX9_feed_7 (by decide +kernel) ?_
  refine V_iadd (Y := m_X9_feed) (pc := 9) dX9_feed_9 ?_
  refine V_bipush (Y := m_X9_feed) (pc := 10) (x := (96 : Int32)) dX9_feed_10 (by decide +kernel) ?_
  refine V_icmp_le (Y := m_X9_feed) (pc := 12) (tgt := 18) dX9_feed_12 (by decide +kernel) hf (fun hf => ?_) (fun hf => ?_)
  · refine V_aload_n (Y := m_X9_feed) (pc := 18) 0 dX9_feed_18 rfl ?_
    refine V_grL (Y := m_X9_feed) (pc := 19) (x := 1) 0 kX9 sC_0 (by decide +kernel) rfl rfl tw_429 dX9_feed_19 ?_
    refine V_iload_n (Y := m_X9_feed) (pc := 22) 1 dX9_feed_22 rfl ?_
    obtain ⟨q1, hq1, hf⟩ := g_bind hf
    refine V_cVv (Y := m_X9_feed) (pc := 23) (As := [.int x1]) yf_X4_take kX4 sC_1 (by decide +kernel) (ok_X4_take x1 M _  hq1) tw_572 tw_573 tw_571 rfl rfl (Nat.le_of_ble_eq_true rfl) dX9_feed_23 ?_
    refine V_aload_n (Y := m_X9_feed) (pc := 26) 0 dX9_feed_26 rfl ?_
    refine V_grL (Y := m_X9_feed) (pc := 27) (x := 1) 0 kX9 sC_0 (by decide +kernel) rfl rfl tw_429 dX9_feed_27 ?_
    refine V_iload_n (Y := m_X9_feed) (pc := 30) 2 dX9_feed_30 rfl ?_
    obtain ⟨q2, hq2, hf⟩ := g_bind hf
    refine V_cVv (Y := m_X9_feed) (pc := 31) (As := [.int x2]) yf_X4_take kX4 sC_1 (by decide +kernel) (ok_X4_take x2 q1.2 _  hq2) tw_572 tw_573 tw_571 rfl rfl (Nat.le_of_ble_eq_true rfl) dX9_feed_31 ?_
    refine V_aload_n (Y := m_X9_feed) (pc := 34) 0 dX9_feed_34 rfl ?_
    refine V_grL (Y := m_X9_feed) (pc := 35) (x := 1) 0 kX9 sC_0 (by decide +kernel) rfl rfl tw_429 dX9_feed_35 ?_
    refine V_iload_n (Y := m_X9_feed) (pc := 38) 3 dX9_feed_38 rfl ?_
    obtain ⟨q3, hq3, hf⟩ := g_bind hf
    refine V_cVv (Y := m_X9_feed) (pc := 39) (As := [.int x3]) yf_X4_take kX4 sC_1 (by decide +kernel) (ok_X4_take x3 q2.2 _  hq3) tw_572 tw_573 tw_571 rfl rfl (Nat.le_of_ble_eq_true rfl) dX9_feed_39 ?_
    refine V_aload_n (Y := m_X9_feed) (pc := 42) 0 dX9_feed_42 rfl ?_
    refine V_grL (Y := m_X9_feed) (pc := 43) (x := 1) 0 kX9 sC_0 (by decide +kernel) rfl rfl tw_429 dX9_feed_43 ?_
    refine V_gi (Y := m_X9_feed) (pc := 46) 1 kX4 sC_1 (by decide +kernel) rfl tw_99 dX9_feed_46 ?_
    obtain rfl := Option.some.inj hf
    exact V_iret (Y := m_X9_feed) rfl dX9_feed_49
  · refine V_ldc (Y := m_X9_feed) (pc := 15) (x := (-1000000003 : Int32)) dX9_feed_15 tw_482 ?_
    obtain rfl := Option.some.inj hf
    exact V_iret (Y := m_X9_feed) rfl dX9_feed_17
def f_X9_feed (x1 : Int32) (x2 : Int32) (x3 : Int32) (M : Mem) : Option (Int32 × Mem) := f_X9_feed_b0 x1 x2 x3 M
set_option maxRecDepth 20000 in
set_option maxHeartbeats 4000000 in
theorem ok_X9_feed {l : Launch} {g : Gam} {b : Nat} : ∀ (x1 : Int32) (x2 : Int32) (x3 : Int32) (M : Mem) (z : Int32 × Mem), f_X9_feed x1 x2 x3 M = some z → Cn l g (wC b) m_X9_feed [.ref (b + 0), .int x1, .int x2, .int x3] M (some (.int z.1)) z.2 := fun x1 x2 x3 M z  hf => Cn_of (by decide +kernel) (Nat.le_of_ble_eq_true rfl) (V_sub [0, 1, 2, 3] rfl (ok_X9_feed_b0 x1 x2 x3 M z  hf))

abbrev m_X9_trim : Mth := (yX9_trim, cX9_trim, 2, some .int, 2)
theorem yf_X9_trim : YF m_X9_trim 1 := ⟨tw_578, tw_65, by decide +kernel, by decide +kernel⟩
def f_X9_trim_b0  (x1 : Int32) (M : Mem) : Option (Int32 × Mem) :=
  (f_X9_isWithin x1 (0 : Int32) (M 1 1) M).bind fun q1 =>
  if q1.1 = 0 then
    some ((-1000000001 : Int32), q1.2)
  else
    some (x1, (mset q1.2 1 1 x1))
set_option maxRecDepth 20000 in
set_option maxHeartbeats 4000000 in
theorem ok_X9_trim_b0 {l : Launch} {g : Gam} {b : Nat}   (x1 : Int32) (M : Mem) (z : Int32 × Mem)  (hf : f_X9_trim_b0 x1 M = some z) : V l g (wC b) m_X9_trim 0 [(0, .ref (b + 0)), (1, .int x1)] [] M (some (.int z.1)) z.2 := by
  unfold f_X9_trim_b0 at hf
  refine V_iload_n (Y := m_X9_trim) (pc := 0) 1 dX9_trim_0 rfl ?_
  refine V_iconst (Y := m_X9_trim) (pc := 1) (x := (0 : Int32)) dX9_trim_1 (by decide +kernel) ?_
  refine V_aload_n (Y := m_X9_trim) (pc := 2) 0 dX9_trim_2 rfl ?_
  refine V_grL (Y := m_X9_trim) (pc := 3) (x := 1) 0 kX9 sC_0 (by decide +kernel) rfl rfl tw_429 dX9_trim_3 ?_
  refine V_gi (Y := m_X9_trim) (pc := 6) 1 kX4 sC_1 (by decide +kernel) rfl tw_99 dX9_trim_6 ?_
  obtain ⟨q1, hq1, hf⟩ := g_bind hf
  refine V_cSi (Y := m_X9_trim) (pc := 9) (As := [.int x1, .int (0 : Int32), .int (M 1 1)]) yf_X9_isWithin (by decide +kernel) (ok_X9_isWithin x1 (0 : Int32) (M 1 1) M _  hq1) tw_479 tw_478 rfl rfl (Nat.le_of_ble_eq_true rfl) dX9_trim_9 ?_
  refine V_if_ne (Y := m_X9_trim) (pc := 12) (tgt := 18) dX9_trim_12 (by decide +kernel) hf (fun hf => ?_) (fun hf => ?_)
  · refine V_aload_n (Y := m_X9_trim) (pc := 18) 0 dX9_trim_18 rfl ?_
    refine V_grL (Y := m_X9_trim) (pc := 19) (x := 1) 0 kX9 sC_0 (by decide +kernel) rfl rfl tw_429 dX9_trim_19 ?_
    refine V_iload_n (Y := m_X9_trim) (pc := 22) 1 dX9_trim_22 rfl ?_
    refine V_pi (Y := m_X9_trim) (pc := 23) 1 kX4 sC_1 (by decide +kernel) rfl rfl rfl tw_99 dX9_trim_23 ?_
    refine V_iload_n (Y := m_X9_trim) (pc := 26) 1 dX9_trim_26 rfl ?_
    obtain rfl := Option.some.inj hf
    exact V_iret (Y := m_X9_trim) rfl dX9_trim_27
  · refine V_ldc (Y := m_X9_trim) (pc := 15) (x := (-1000000001 : Int32)) dX9_trim_15 tw_481 ?_
    obtain rfl := Option.some.inj hf
    exact V_iret (Y := m_X9_trim) rfl dX9_trim_17
def f_X9_trim (x1 : Int32) (M : Mem) : Option (Int32 × Mem) := f_X9_trim_b0 x1 M
set_option maxRecDepth 20000 in
set_option maxHeartbeats 4000000 in
theorem ok_X9_trim {l : Launch} {g : Gam} {b : Nat} : ∀ (x1 : Int32) (M : Mem) (z : Int32 × Mem), f_X9_trim x1 M = some z → Cn l g (wC b) m_X9_trim [.ref (b + 0), .int x1] M (some (.int z.1)) z.2 := fun x1 M z  hf => Cn_of (by decide +kernel) (Nat.le_of_ble_eq_true rfl) (V_sub [0, 1] rfl (ok_X9_trim_b0 x1 M z  hf))

abbrev m_X9_law : Mth := (yX9_law, cX9_law, 2, some .int, 129)
theorem yf_X9_law : YF m_X9_law 0 := ⟨tw_582, tw_65, by decide +kernel, by decide +kernel⟩
def f_X9_law_b0   (M : Mem) : Option (Int32 × Mem) :=
  (f_X4_readText  M).bind fun q1 =>
  if q1.1 = 0 then
    some (((-100 : Int32) - ((mset q1.2 1 1 (0 : Int32)) 1 2)), (mset q1.2 1 1 (0 : Int32)))
  else
    if ((mset q1.2 1 1 (0 : Int32)) 48 10) < (14 : Int32) then
      if ixb ((mset q1.2 1 1 (0 : Int32)) 48 10) 14 = true then
      (f_X8_takeFrom (rfC 18 (ix ((mset q1.2 1 1 (0 : Int32)) 48 10))) (mset q1.2 1 1 (0 : Int32))).bind fun q3 =>
      some ((((mset q3.2 48 10 ((q3.2 48 10) + (1 : Int32))) 48 10) - (1 : Int32)), (mset q3.2 48 10 ((q3.2 48 10) + (1 : Int32))))
      else none
    else
      some ((-1000000003 : Int32), (mset q1.2 1 1 (0 : Int32)))
set_option maxRecDepth 20000 in
set_option maxHeartbeats 4000000 in
theorem ok_X9_law_b0 {l : Launch} {g : Gam} {b : Nat}    (M : Mem) (z : Int32 × Mem)  (hf : f_X9_law_b0  M = some z) : V l g (wC b) m_X9_law 0 [(0, .ref (b + 0))] [] M (some (.int z.1)) z.2 := by
  unfold f_X9_law_b0 at hf
  refine V_aload_n (Y := m_X9_law) (pc := 0) 0 dX9_law_0 rfl ?_
  refine V_grL (Y := m_X9_law) (pc := 1) (x := 1) 0 kX9 sC_0 (by decide +kernel) rfl rfl tw_429 dX9_law_1 ?_
  obtain ⟨q1, hq1, hf⟩ := g_bind hf
  refine V_cVi (Y := m_X9_law) (pc := 4) (As := []) yf_X4_readText kX4 sC_1 (by decide +kernel) (ok_X4_readText  M _  hq1) tw_584 tw_585 tw_583 rfl rfl (Nat.le_of_ble_eq_true rfl) dX9_law_4 ?_
  refine V_istore_n (Y := m_X9_law) (pc := 7) [(1, .int q1.1), (0, .ref (b + 0))] dX9_law_7 (by decide +kernel) rfl ?_
  refine V_aload_n (Y := m_X9_law) (pc := 8) 1 dX9_law_8 rfl ?_
  refine V_grL (Y := m_X9_law) (pc := 9) (x := 1) 0 kX9 sC_0 (by decide +kernel) rfl rfl tw_429 dX9_law_9 ?_
  refine V_iconst (Y := m_X9_law) (pc := 12) (x := (0 : Int32)) dX9_law_12 (by decide +kernel) ?_
  refine V_pi (Y := m_X9_law) (pc := 13) 1 kX4 sC_1 (by decide +kernel) rfl rfl rfl tw_99 dX9_law_13 ?_
  refine V_iload_n (Y := m_X9_law) (pc := 16) 0 dX9_law_16 rfl ?_
  refine V_if_ne (Y := m_X9_law) (pc := 17) (tgt := 31) dX9_law_17 (by decide +kernel) hf (fun hf => ?_) (fun hf => ?_)
  · refine V_aload_n (Y := m_X9_law) (pc := 31) 1 dX9_law_31 rfl ?_
    refine V_grL (Y := m_X9_law) (pc := 32) (x := 48) 1 kX9 sC_0 (by decide +kernel) rfl rfl tw_430 dX9_law_32 ?_
    refine V_gi (Y := m_X9_law) (pc := 35) 10 kX0 sC_48 (by decide +kernel) rfl tw_355 dX9_law_35 ?_
    refine V_bipush (Y := m_X9_law) (pc := 38) (x := (14 : Int32)) dX9_law_38 (by decide +kernel) ?_
    refine V_icmp_lt (Y := m_X9_law) (pc := 40) (tgt := 46) dX9_law_40 (by decide +kernel) hf (fun hf => ?_) (fun hf => ?_)
    · refine V_aload_n (Y := m_X9_law) (pc := 46) 1 dX9_law_46 rfl ?_
      refine V_grL (Y := m_X9_law) (pc := 47) (x := 48) 1 kX9 sC_0 (by decide +kernel) rfl rfl tw_430 dX9_law_47 ?_
      refine V_grL (Y := m_X9_law) (pc := 50) (x := 18) 1 kX0 sC_48 (by decide +kernel) rfl rfl tw_334 dX9_law_50 ?_
      refine V_aload_n (Y := m_X9_law) (pc := 53) 1 dX9_law_53 rfl ?_
      refine V_grL (Y := m_X9_law) (pc := 54) (x := 48) 1 kX9 sC_0 (by decide +kernel) rfl rfl tw_430 dX9_law_54 ?_
      refine V_gi (Y := m_X9_law) (pc := 57) 10 kX0 sC_48 (by decide +kernel) rfl tw_355 dX9_law_57 ?_
      obtain ⟨hi2, hf⟩ := g_if hf
      refine V_aald (Y := m_X9_law) (pc := 60) 2 rfl sC_18 hi2 dX9_law_60 ?_
      refine V_aload_n (Y := m_X9_law) (pc := 61) 1 dX9_law_61 rfl ?_
      refine V_grL (Y := m_X9_law) (pc := 62) (x := 1) 0 kX9 sC_0 (by decide +kernel) rfl rfl tw_429 dX9_law_62 ?_
      obtain ⟨q3, hq3, hf⟩ := g_bind hf
      refine V_cVv (Y := m_X9_law) (pc := 65) (As := [.ref (b + 1)]) yf_X8_takeFrom kX8 (wtC.2 _ _ _ sC_18 _ (ixb_lt hi2)) (by decide +kernel) (ok_X8_takeFrom (rfC 18 (ix ((mset q1.2 1 1 (0 : Int32)) 48 10))) (mset q1.2 1 1 (0 : Int32)) _ (wtC.2 _ _ _ sC_18 _ (ixb_lt hi2)) hq3) tw_697 tw_698 tw_696 rfl rfl (Nat.le_of_ble_eq_true rfl) dX9_law_65 ?_
      refine V_aload_n (Y := m_X9_law) (pc := 68) 1 dX9_law_68 rfl ?_
      refine V_grL (Y := m_X9_law) (pc := 69) (x := 48) 1 kX9 sC_0 (by decide +kernel) rfl rfl tw_430 dX9_law_69 ?_
      refine V_dup (Y := m_X9_law) (pc := 72) dX9_law_72 rfl ?_
      refine V_gi (Y := m_X9_law) (pc := 73) 10 kX0 sC_48 (by decide +kernel) rfl tw_355 dX9_law_73 ?_
      refine V_iconst (Y := m_X9_law) (pc := 76) (x := (1 : Int32)) dX9_law_76 (by decide +kernel) ?_
      refine V_iadd (Y := m_X9_law) (pc := 77) dX9_law_77 ?_
      refine V_pi (Y := m_X9_law) (pc := 78) 10 kX0 sC_48 (by decide +kernel) rfl rfl rfl tw_355 dX9_law_78 ?_
      refine V_aload_n (Y := m_X9_law) (pc := 81) 1 dX9_law_81 rfl ?_
      refine V_grL (Y := m_X9_law) (pc := 82) (x := 48) 1 kX9 sC_0 (by decide +kernel) rfl rfl tw_430 dX9_law_82 ?_
      refine V_gi (Y := m_X9_law) (pc := 85) 10 kX0 sC_48 (by decide +kernel) rfl tw_355 dX9_law_85 ?_
      refine V_iconst (Y := m_X9_law) (pc := 88) (x := (1 : Int32)) dX9_law_88 (by decide +kernel) ?_
      refine V_isub (Y := m_X9_law) (pc := 89) dX9_law_89 ?_
      obtain rfl := Option.some.inj hf
      exact V_iret (Y := m_X9_law) rfl dX9_law_90
    · refine V_ldc (Y := m_X9_law) (pc := 43) (x := (-1000000003 : Int32)) dX9_law_43 tw_482 ?_
      obtain rfl := Option.some.inj hf
      exact V_iret (Y := m_X9_law) rfl dX9_law_45
  · refine V_bipush (Y := m_X9_law) (pc := 20) (x := (-100 : Int32)) dX9_law_20 (by decide +kernel) ?_
    refine V_aload_n (Y := m_X9_law) (pc := 22) 1 dX9_law_22 rfl ?_
    refine V_grL (Y := m_X9_law) (pc := 23) (x := 1) 0 kX9 sC_0 (by decide +kernel) rfl rfl tw_429 dX9_law_23 ?_
    refine V_gi (Y := m_X9_law) (pc := 26) 2 kX4 sC_1 (by decide +kernel) rfl tw_101 dX9_law_26 ?_
    refine V_isub (Y := m_X9_law) (pc := 29) dX9_law_29 ?_
    obtain rfl := Option.some.inj hf
    exact V_iret (Y := m_X9_law) rfl dX9_law_30
def f_X9_law  (M : Mem) : Option (Int32 × Mem) := f_X9_law_b0  M
set_option maxRecDepth 20000 in
set_option maxHeartbeats 4000000 in
theorem ok_X9_law {l : Launch} {g : Gam} {b : Nat} : ∀  (M : Mem) (z : Int32 × Mem), f_X9_law  M = some z → Cn l g (wC b) m_X9_law [.ref (b + 0)] M (some (.int z.1)) z.2 := fun  M z  hf => Cn_of (by decide +kernel) (Nat.le_of_ble_eq_true rfl) (V_sub [0] rfl (ok_X9_law_b0  M z  hf))

abbrev m_X9_of : Mth := (yX9_of, cX9_of, 4, some .int, 2)
theorem yf_X9_of : YF m_X9_of 2 := ⟨tw_707, tw_65, by decide +kernel, by decide +kernel⟩
def f_X9_of_b0  (x1 : Int32) (x2 : Int32) (M : Mem) : Option (Int32 × Mem) :=
  (f_X9_isBelow x1 (M 48 10) M).bind fun q1 =>
  if q1.1 = 0 then
    some ((-1000000001 : Int32), q1.2)
  else
    if ixb x1 14 = true then
    if x2 = (0 : Int32) then
      some ((q1.2 (rfC 18 (ix x1)) 0), q1.2)
    else
    if x2 = (1 : Int32) then
      some ((q1.2 (rfC 18 (ix x1)) 1), q1.2)
    else
    if x2 = (2 : Int32) then
      some ((q1.2 (rfC 18 (ix x1)) 2), q1.2)
    else
    some ((-1000000001 : Int32), q1.2)
    else none
set_option maxRecDepth 20000 in
set_option maxHeartbeats 4000000 in
theorem ok_X9_of_b0 {l : Launch} {g : Gam} {b : Nat}   (x1 : Int32) (x2 : Int32) (M : Mem) (z : Int32 × Mem)  (hf : f_X9_of_b0 x1 x2 M = some z) : V l g (wC b) m_X9_of 0 [(0, .ref (b + 0)), (1, .int x1), (2, .int x2)] [] M (some (.int z.1)) z.2 := by
  unfold f_X9_of_b0 at hf
  refine V_iload_n (Y := m_X9_of) (pc := 0) 1 dX9_of_0 rfl ?_
  refine V_aload_n (Y := m_X9_of) (pc := 1) 0 dX9_of_1 rfl ?_
  refine V_grL (Y := m_X9_of) (pc := 2) (x := 48) 1 kX9 sC_0 (by decide +kernel) rfl rfl tw_430 dX9_of_2 ?_
  refine V_gi (Y := m_X9_of) (pc := 5) 10 kX0 sC_48 (by decide +kernel) rfl tw_355 dX9_of_5 ?_
  obtain ⟨q1, hq1, hf⟩ := g_bind hf
  refine V_cSi (Y := m_X9_of) (pc := 8) (As := [.int x1, .int (M 48 10)]) yf_X9_isBelow (by decide +kernel) (ok_X9_isBelow x1 (M 48 10) M _  hq1) tw_473 tw_472 rfl rfl (Nat.le_of_ble_eq_true rfl) dX9_of_8 ?_
  refine V_if_ne (Y := m_X9_of) (pc := 11) (tgt := 17) dX9_of_11 (by decide +kernel) hf (fun hf => ?_) (fun hf => ?_)
  · refine V_aload_n (Y := m_X9_of) (pc := 17) 0 dX9_of_17 rfl ?_
    refine V_grL (Y := m_X9_of) (pc := 18) (x := 48) 1 kX9 sC_0 (by decide +kernel) rfl rfl tw_430 dX9_of_18 ?_
    refine V_grL (Y := m_X9_of) (pc := 21) (x := 18) 1 kX0 sC_48 (by decide +kernel) rfl rfl tw_334 dX9_of_21 ?_
    refine V_iload_n (Y := m_X9_of) (pc := 24) 1 dX9_of_24 rfl ?_
    obtain ⟨hi2, hf⟩ := g_if hf
    refine V_aald (Y := m_X9_of) (pc := 25) 2 rfl sC_18 hi2 dX9_of_25 ?_
    refine V_astore_n (Y := m_X9_of) (pc := 26) [(3, .ref (b + (rfC 18 (ix x1)))), (0, .ref (b + 0)), (1, .int x1), (2, .int x2)] dX9_of_26 (by decide +kernel) rfl ?_
    refine V_iload_n (Y := m_X9_of) (pc := 27) 3 dX9_of_27 rfl ?_
    by_cases hc3 : x2 = (0 : Int32)
    · rw [if_pos hc3] at hf
      refine V_tsw (Y := m_X9_of) (pc := 28) (tgt := 56) (0 : Int32) hc3 dX9_of_28 (by decide +kernel) ?_
      refine V_aload_n (Y := m_X9_of) (pc := 56) 0 dX9_of_56 rfl ?_
      refine V_gi (Y := m_X9_of) (pc := 57) 0 kX8 (wtC.2 _ _ _ sC_18 _ (ixb_lt hi2)) (by decide +kernel) rfl tw_249 dX9_of_57 ?_
      obtain rfl := Option.some.inj hf
      exact V_iret (Y := m_X9_of) rfl dX9_of_60
    rw [if_neg hc3] at hf
    by_cases hc4 : x2 = (1 : Int32)
    · rw [if_pos hc4] at hf
      refine V_tsw (Y := m_X9_of) (pc := 28) (tgt := 61) (1 : Int32) hc4 dX9_of_28 (by decide +kernel) ?_
      refine V_aload_n (Y := m_X9_of) (pc := 61) 0 dX9_of_61 rfl ?_
      refine V_gi (Y := m_X9_of) (pc := 62) 1 kX8 (wtC.2 _ _ _ sC_18 _ (ixb_lt hi2)) (by decide +kernel) rfl tw_252 dX9_of_62 ?_
      obtain rfl := Option.some.inj hf
      exact V_iret (Y := m_X9_of) rfl dX9_of_65
    rw [if_neg hc4] at hf
    by_cases hc5 : x2 = (2 : Int32)
    · rw [if_pos hc5] at hf
      refine V_tsw (Y := m_X9_of) (pc := 28) (tgt := 66) (2 : Int32) hc5 dX9_of_28 (by decide +kernel) ?_
      refine V_aload_n (Y := m_X9_of) (pc := 66) 0 dX9_of_66 rfl ?_
      refine V_gi (Y := m_X9_of) (pc := 67) 2 kX8 (wtC.2 _ _ _ sC_18 _ (ixb_lt hi2)) (by decide +kernel) rfl tw_254 dX9_of_67 ?_
      obtain rfl := Option.some.inj hf
      exact V_iret (Y := m_X9_of) rfl dX9_of_70
    rw [if_neg hc5] at hf
    refine V_tswO (Y := m_X9_of) (pc := 28) (tgt := 71) [(0 : Int32), (1 : Int32), (2 : Int32)] (List.forall_mem_cons.mpr ⟨hc3, (List.forall_mem_cons.mpr ⟨hc4, (List.forall_mem_cons.mpr ⟨hc5, (fun _ h => absurd h List.not_mem_nil)⟩)⟩)⟩) dX9_of_28 (by decide +kernel) (by decide +kernel) ?_
    refine V_ldc (Y := m_X9_of) (pc := 71) (x := (-1000000001 : Int32)) dX9_of_71 tw_481 ?_
    obtain rfl := Option.some.inj hf
    exact V_iret (Y := m_X9_of) rfl dX9_of_73
  · refine V_ldc (Y := m_X9_of) (pc := 14) (x := (-1000000001 : Int32)) dX9_of_14 tw_481 ?_
    obtain rfl := Option.some.inj hf
    exact V_iret (Y := m_X9_of) rfl dX9_of_16
def f_X9_of (x1 : Int32) (x2 : Int32) (M : Mem) : Option (Int32 × Mem) := f_X9_of_b0 x1 x2 M
set_option maxRecDepth 20000 in
set_option maxHeartbeats 4000000 in
theorem ok_X9_of {l : Launch} {g : Gam} {b : Nat} : ∀ (x1 : Int32) (x2 : Int32) (M : Mem) (z : Int32 × Mem), f_X9_of x1 x2 M = some z → Cn l g (wC b) m_X9_of [.ref (b + 0), .int x1, .int x2] M (some (.int z.1)) z.2 := fun x1 x2 M z  hf => Cn_of (by decide +kernel) (Nat.le_of_ble_eq_true rfl) (V_sub [0, 1, 2] rfl (ok_X9_of_b0 x1 x2 M z  hf))

abbrev m_X9_why : Mth := (yX9_why, cX9_why, 3, some .int, 2)
theorem yf_X9_why : YF m_X9_why 2 := ⟨tw_711, tw_65, by decide +kernel, by decide +kernel⟩
def f_X9_why_b0  (x1 : Int32) (x2 : Int32) (M : Mem) : Option (Int32 × Mem) :=
  (f_X9_isBelow x1 (3 : Int32) M).bind fun q1 =>
  if q1.1 = 0 then
    some ((-1000000001 : Int32), q1.2)
  else
    (f_X9_isBelow x2 (3 : Int32) q1.2).bind fun q2 =>
    if q2.1 = 0 then
      some ((-1000000001 : Int32), q2.2)
    else
      (f_X0_textFor 48 x1 x2 q2.2).bind fun q3 =>
      some (q3.1, q3.2)
set_option maxRecDepth 20000 in
set_option maxHeartbeats 4000000 in
theorem ok_X9_why_b0 {l : Launch} {g : Gam} {b : Nat}   (x1 : Int32) (x2 : Int32) (M : Mem) (z : Int32 × Mem)  (hf : f_X9_why_b0 x1 x2 M = some z) : V l g (wC b) m_X9_why 0 [(0, .ref (b + 0)), (1, .int x1), (2, .int x2)] [] M (some (.int z.1)) z.2 := by
  unfold f_X9_why_b0 at hf
  refine V_iload_n (Y := m_X9_why) (pc := 0) 1 dX9_why_0 rfl ?_
  refine V_iconst (Y := m_X9_why) (pc := 1) (x := (3 : Int32)) dX9_why_1 (by decide +kernel) ?_
  obtain ⟨q1, hq1, hf⟩ := g_bind hf
  refine V_cSi (Y := m_X9_why) (pc := 2) (As := [.int x1, .int (3 : Int32)]) yf_X9_isBelow (by decide +kernel) (ok_X9_isBelow x1 (3 : Int32) M _  hq1) tw_473 tw_472 rfl rfl (Nat.le_of_ble_eq_true rfl) dX9_why_2 ?_
  refine V_if_eq (Y := m_X9_why) (pc := 5) (tgt := 16) dX9_why_5 (by decide +kernel) hf (fun hf => ?_) (fun hf => ?_)
  · refine V_ldc (Y := m_X9_why) (pc := 16) (x := (-1000000001 : Int32)) dX9_why_16 tw_481 ?_
    obtain rfl := Option.some.inj hf
    exact V_iret (Y := m_X9_why) rfl dX9_why_18
  · refine V_iload_n (Y := m_X9_why) (pc := 8) 2 dX9_why_8 rfl ?_
    refine V_iconst (Y := m_X9_why) (pc := 9) (x := (3 : Int32)) dX9_why_9 (by decide +kernel) ?_
    obtain ⟨q2, hq2, hf⟩ := g_bind hf
    refine V_cSi (Y := m_X9_why) (pc := 10) (As := [.int x2, .int (3 : Int32)]) yf_X9_isBelow (by decide +kernel) (ok_X9_isBelow x2 (3 : Int32) q1.2 _  hq2) tw_473 tw_472 rfl rfl (Nat.le_of_ble_eq_true rfl) dX9_why_10 ?_
    refine V_if_ne (Y := m_X9_why) (pc := 13) (tgt := 19) dX9_why_13 (by decide +kernel) hf (fun hf => ?_) (fun hf => ?_)
    · refine V_aload_n (Y := m_X9_why) (pc := 19) 0 dX9_why_19 rfl ?_
      refine V_grL (Y := m_X9_why) (pc := 20) (x := 48) 1 kX9 sC_0 (by decide +kernel) rfl rfl tw_430 dX9_why_20 ?_
      refine V_iload_n (Y := m_X9_why) (pc := 23) 1 dX9_why_23 rfl ?_
      refine V_iload_n (Y := m_X9_why) (pc := 24) 2 dX9_why_24 rfl ?_
      obtain ⟨q3, hq3, hf⟩ := g_bind hf
      refine V_cVi (Y := m_X9_why) (pc := 25) (As := [.int x1, .int x2]) yf_X0_textFor kX0 sC_48 (by decide +kernel) (ok_X0_textFor 48 x1 x2 q2.2 _ sC_48 hq3) tw_510 tw_511 tw_712 rfl rfl (Nat.le_of_ble_eq_true rfl) dX9_why_25 ?_
      obtain rfl := Option.some.inj hf
      exact V_iret (Y := m_X9_why) rfl dX9_why_28
    · refine V_ldc (Y := m_X9_why) (pc := 16) (x := (-1000000001 : Int32)) dX9_why_16 tw_481 ?_
      obtain rfl := Option.some.inj hf
      exact V_iret (Y := m_X9_why) rfl dX9_why_18
def f_X9_why (x1 : Int32) (x2 : Int32) (M : Mem) : Option (Int32 × Mem) := f_X9_why_b0 x1 x2 M
set_option maxRecDepth 20000 in
set_option maxHeartbeats 4000000 in
theorem ok_X9_why {l : Launch} {g : Gam} {b : Nat} : ∀ (x1 : Int32) (x2 : Int32) (M : Mem) (z : Int32 × Mem), f_X9_why x1 x2 M = some z → Cn l g (wC b) m_X9_why [.ref (b + 0), .int x1, .int x2] M (some (.int z.1)) z.2 := fun x1 x2 M z  hf => Cn_of (by decide +kernel) (Nat.le_of_ble_eq_true rfl) (V_sub [0, 1, 2] rfl (ok_X9_why_b0 x1 x2 M z  hf))

abbrev m_X9_cape : Mth := (yX9_cape, cX9_cape, 3, some .int, 7)
theorem yf_X9_cape : YF m_X9_cape 2 := ⟨tw_716, tw_65, by decide +kernel, by decide +kernel⟩
def f_X9_cape_b56  (x2 : Int32) (M : Mem) : Option (Int32 × Mem) :=
  if x2 = (0 : Int32) then
    some ((M 4 0), M)
  else
  if x2 = (1 : Int32) then
    some ((M 4 1), M)
  else
  if x2 = (2 : Int32) then
    some ((M 4 2), M)
  else
  if x2 = (3 : Int32) then
    (f_X1_width  M).bind fun q5 =>
    some (q5.1, q5.2)
  else
  if x2 = (4 : Int32) then
    some ((((M 4 1) + (M 4 2)) / (2 : Int32)), M)
  else
  if x2 = (5 : Int32) then
    (f_X1_hold  M).bind fun q8 =>
    if q8.1 = 0 then
      some ((0 : Int32), q8.2)
    else
      some ((1 : Int32), q8.2)
  else
  if x2 = (6 : Int32) then
    some ((M 4 3), M)
  else
  (f_X1_standOnOne  M).bind fun q10 =>
  if q10.1 = 0 then
    some ((0 : Int32), q10.2)
  else
    some ((1 : Int32), q10.2)
set_option maxRecDepth 20000 in
set_option maxHeartbeats 4000000 in
theorem ok_X9_cape_b56 {l : Launch} {g : Gam} {b : Nat}   (x2 : Int32) (M : Mem) (z : Int32 × Mem)  (hf : f_X9_cape_b56 x2 M = some z) : V l g (wC b) m_X9_cape 56 [(0, .ref (b + 0)), (2, .int x2)] [] M (some (.int z.1)) z.2 := by
  unfold f_X9_cape_b56 at hf
  refine V_iload_n (Y := m_X9_cape) (pc := 56) 1 dX9_cape_56 rfl ?_
  by_cases hc1 : x2 = (0 : Int32)
  · rw [if_pos hc1] at hf
    refine V_tsw (Y := m_X9_cape) (pc := 57) (tgt := 100) (0 : Int32) hc1 dX9_cape_57 (by decide +kernel) ?_
    refine V_aload_n (Y := m_X9_cape) (pc := 100) 0 dX9_cape_100 rfl ?_
    refine V_grL (Y := m_X9_cape) (pc := 101) (x := 4) 3 kX9 sC_0 (by decide +kernel) rfl rfl tw_432 dX9_cape_101 ?_
    refine V_gi (Y := m_X9_cape) (pc := 104) 0 kX1 sC_4 (by decide +kernel) rfl tw_152 dX9_cape_104 ?_
    obtain rfl := Option.some.inj hf
    exact V_iret (Y := m_X9_cape) rfl dX9_cape_107
  rw [if_neg hc1] at hf
  by_cases hc2 : x2 = (1 : Int32)
  · rw [if_pos hc2] at hf
    refine V_tsw (Y := m_X9_cape) (pc := 57) (tgt := 108) (1 : Int32) hc2 dX9_cape_57 (by decide +kernel) ?_
    refine V_aload_n (Y := m_X9_cape) (pc := 108) 0 dX9_cape_108 rfl ?_
    refine V_grL (Y := m_X9_cape) (pc := 109) (x := 4) 3 kX9 sC_0 (by decide +kernel) rfl rfl tw_432 dX9_cape_109 ?_
    refine V_gi (Y := m_X9_cape) (pc := 112) 1 kX1 sC_4 (by decide +kernel) rfl tw_154 dX9_cape_112 ?_
    obtain rfl := Option.some.inj hf
    exact V_iret (Y := m_X9_cape) rfl dX9_cape_115
  rw [if_neg hc2] at hf
  by_cases hc3 : x2 = (2 : Int32)
  · rw [if_pos hc3] at hf
    refine V_tsw (Y := m_X9_cape) (pc := 57) (tgt := 116) (2 : Int32) hc3 dX9_cape_57 (by decide +kernel) ?_
    refine V_aload_n (Y := m_X9_cape) (pc := 116) 0 dX9_cape_116 rfl ?_
    refine V_grL (Y := m_X9_cape) (pc := 117) (x := 4) 3 kX9 sC_0 (by decide +kernel) rfl rfl tw_432 dX9_cape_117 ?_
    refine V_gi (Y := m_X9_cape) (pc := 120) 2 kX1 sC_4 (by decide +kernel) rfl tw_156 dX9_cape_120 ?_
    obtain rfl := Option.some.inj hf
    exact V_iret (Y := m_X9_cape) rfl dX9_cape_123
  rw [if_neg hc3] at hf
  by_cases hc4 : x2 = (3 : Int32)
  · rw [if_pos hc4] at hf
    refine V_tsw (Y := m_X9_cape) (pc := 57) (tgt := 124) (3 : Int32) hc4 dX9_cape_57 (by decide +kernel) ?_
    refine V_aload_n (Y := m_X9_cape) (pc := 124) 0 dX9_cape_124 rfl ?_
    refine V_grL (Y := m_X9_cape) (pc := 125) (x := 4) 3 kX9 sC_0 (by decide +kernel) rfl rfl tw_432 dX9_cape_125 ?_
    obtain ⟨q5, hq5, hf⟩ := g_bind hf
    refine V_cVi (Y := m_X9_cape) (pc := 128) (As := []) yf_X1_width kX1 sC_4 (by decide +kernel) (ok_X1_width  M _  hq5) tw_739 tw_740 tw_738 rfl rfl (Nat.le_of_ble_eq_true rfl) dX9_cape_128 ?_
    obtain rfl := Option.some.inj hf
    exact V_iret (Y := m_X9_cape) rfl dX9_cape_131
  rw [if_neg hc4] at hf
  by_cases hc6 : x2 = (4 : Int32)
  · rw [if_pos hc6] at hf
    refine V_tsw (Y := m_X9_cape) (pc := 57) (tgt := 132) (4 : Int32) hc6 dX9_cape_57 (by decide +kernel) ?_
    refine V_aload_n (Y := m_X9_cape) (pc := 132) 0 dX9_cape_132 rfl ?_
    refine V_grL (Y := m_X9_cape) (pc := 133) (x := 4) 3 kX9 sC_0 (by decide +kernel) rfl rfl tw_432 dX9_cape_133 ?_
    refine V_gi (Y := m_X9_cape) (pc := 136) 1 kX1 sC_4 (by decide +kernel) rfl tw_154 dX9_cape_136 ?_
    refine V_aload_n (Y := m_X9_cape) (pc := 139) 0 dX9_cape_139 rfl ?_
    refine V_grL (Y := m_X9_cape) (pc := 140) (x := 4) 3 kX9 sC_0 (by decide +kernel) rfl rfl tw_432 dX9_cape_140 ?_
    refine V_gi (Y := m_X9_cape) (pc := 143) 2 kX1 sC_4 (by decide +kernel) rfl tw_156 dX9_cape_143 ?_
    refine V_iadd (Y := m_X9_cape) (pc := 146) dX9_cape_146 ?_
    refine V_iconst (Y := m_X9_cape) (pc := 147) (x := (2 : Int32)) dX9_cape_147 (by decide +kernel) ?_
    refine V_idiv (Y := m_X9_cape) (pc := 148) dX9_cape_148 (by decide +kernel) ?_
    obtain rfl := Option.some.inj hf
    exact V_iret (Y := m_X9_cape) rfl dX9_cape_149
  rw [if_neg hc6] at hf
  by_cases hc7 : x2 = (5 : Int32)
  · rw [if_pos hc7] at hf
    refine V_tsw (Y := m_X9_cape) (pc := 57) (tgt := 150) (5 : Int32) hc7 dX9_cape_57 (by decide +kernel) ?_
    refine V_aload_n (Y := m_X9_cape) (pc := 150) 0 dX9_cape_150 rfl ?_
    refine V_grL (Y := m_X9_cape) (pc := 151) (x := 4) 3 kX9 sC_0 (by decide +kernel) rfl rfl tw_432 dX9_cape_151 ?_
    obtain ⟨q8, hq8, hf⟩ := g_bind hf
    refine V_cVi (Y := m_X9_cape) (pc := 154) (As := []) yf_X1_hold kX1 sC_4 (by decide +kernel) (ok_X1_hold  M _  hq8) tw_743 tw_744 tw_742 rfl rfl (Nat.le_of_ble_eq_true rfl) dX9_cape_154 ?_
    refine V_if_eq (Y := m_X9_cape) (pc := 157) (tgt := 164) dX9_cape_157 (by decide +kernel) hf (fun hf => ?_) (fun hf => ?_)
    · refine V_iconst (Y := m_X9_cape) (pc := 164) (x := (0 : Int32)) dX9_cape_164 (by decide +kernel) ?_
      obtain rfl := Option.some.inj hf
      exact V_iret (Y := m_X9_cape) rfl dX9_cape_165
    · refine V_iconst (Y := m_X9_cape) (pc := 160) (x := (1 : Int32)) dX9_cape_160 (by decide +kernel) ?_
      refine V_goto (Y := m_X9_cape) (pc := 161) (tgt := 165) dX9_cape_161 (by decide +kernel) ?_
      obtain rfl := Option.some.inj hf
      exact V_iret (Y := m_X9_cape) rfl dX9_cape_165
  rw [if_neg hc7] at hf
  by_cases hc9 : x2 = (6 : Int32)
  · rw [if_pos hc9] at hf
    refine V_tsw (Y := m_X9_cape) (pc := 57) (tgt := 166) (6 : Int32) hc9 dX9_cape_57 (by decide +kernel) ?_
    refine V_aload_n (Y := m_X9_cape) (pc := 166) 0 dX9_cape_166 rfl ?_
    refine V_grL (Y := m_X9_cape) (pc := 167) (x := 4) 3 kX9 sC_0 (by decide +kernel) rfl rfl tw_432 dX9_cape_167 ?_
    refine V_gi (Y := m_X9_cape) (pc := 170) 3 kX1 sC_4 (by decide +kernel) rfl tw_158 dX9_cape_170 ?_
    obtain rfl := Option.some.inj hf
    exact V_iret (Y := m_X9_cape) rfl dX9_cape_173
  rw [if_neg hc9] at hf
  refine V_tswO (Y := m_X9_cape) (pc := 57) (tgt := 174) [(0 : Int32), (1 : Int32), (2 : Int32), (3 : Int32), (4 : Int32), (5 : Int32), (6 : Int32)] (List.forall_mem_cons.mpr ⟨hc1, (List.forall_mem_cons.mpr ⟨hc2, (List.forall_mem_cons.mpr ⟨hc3, (List.forall_mem_cons.mpr ⟨hc4, (List.forall_mem_cons.mpr ⟨hc6, (List.forall_mem_cons.mpr ⟨hc7, (List.forall_mem_cons.mpr ⟨hc9, (fun _ h => absurd h List.not_mem_nil)⟩)⟩)⟩)⟩)⟩)⟩)⟩) dX9_cape_57 (by decide +kernel) (by decide +kernel) ?_
  refine V_aload_n (Y := m_X9_cape) (pc := 174) 0 dX9_cape_174 rfl ?_
  refine V_grL (Y := m_X9_cape) (pc := 175) (x := 4) 3 kX9 sC_0 (by decide +kernel) rfl rfl tw_432 dX9_cape_175 ?_
  obtain ⟨q10, hq10, hf⟩ := g_bind hf
  refine V_cVi (Y := m_X9_cape) (pc := 178) (As := []) yf_X1_standOnOne kX1 sC_4 (by decide +kernel) (ok_X1_standOnOne  M _  hq10) tw_747 tw_748 tw_746 rfl rfl (Nat.le_of_ble_eq_true rfl) dX9_cape_178 ?_
  refine V_if_eq (Y := m_X9_cape) (pc := 181) (tgt := 188) dX9_cape_181 (by decide +kernel) hf (fun hf => ?_) (fun hf => ?_)
  · refine V_iconst (Y := m_X9_cape) (pc := 188) (x := (0 : Int32)) dX9_cape_188 (by decide +kernel) ?_
    obtain rfl := Option.some.inj hf
    exact V_iret (Y := m_X9_cape) rfl dX9_cape_189
  · refine V_iconst (Y := m_X9_cape) (pc := 184) (x := (1 : Int32)) dX9_cape_184 (by decide +kernel) ?_
    refine V_goto (Y := m_X9_cape) (pc := 185) (tgt := 189) dX9_cape_185 (by decide +kernel) ?_
    obtain rfl := Option.some.inj hf
    exact V_iret (Y := m_X9_cape) rfl dX9_cape_189
def f_X9_cape_b0  (x1 : Int32) (x2 : Int32) (M : Mem) : Option (Int32 × Mem) :=
  (f_X9_isBelow x1 (9 : Int32) M).bind fun q1 =>
  if q1.1 = 0 then
    some ((-1000000001 : Int32), q1.2)
  else
    (f_X9_isWithin x2 (0 : Int32) (7 : Int32) q1.2).bind fun q2 =>
    if q2.1 = 0 then
      some ((-1000000001 : Int32), q2.2)
    else
      (f_X1_look 48 x1 q2.2).bind fun q3 =>
      (f_X1_areSeen  q3.2).bind fun q4 =>
      if q4.1 = 0 then
        (f_X9_isWithin x2 (1 : Int32) (4 : Int32) q4.2).bind fun q5 =>
        if q5.1 = 0 then
          f_X9_cape_b56  x2 q5.2
        else
          some ((-1000000005 : Int32), q5.2)
      else
        f_X9_cape_b56  x2 q4.2
set_option maxRecDepth 20000 in
set_option maxHeartbeats 4000000 in
theorem ok_X9_cape_b0 {l : Launch} {g : Gam} {b : Nat}   (x1 : Int32) (x2 : Int32) (M : Mem) (z : Int32 × Mem)  (hf : f_X9_cape_b0 x1 x2 M = some z) : V l g (wC b) m_X9_cape 0 [(0, .ref (b + 0)), (1, .int x1), (2, .int x2)] [] M (some (.int z.1)) z.2 := by
  unfold f_X9_cape_b0 at hf
  refine V_iload_n (Y := m_X9_cape) (pc := 0) 1 dX9_cape_0 rfl ?_
  refine V_bipush (Y := m_X9_cape) (pc := 1) (x := (9 : Int32)) dX9_cape_1 (by decide +kernel) ?_
  obtain ⟨q1, hq1, hf⟩ := g_bind hf
  refine V_cSi (Y := m_X9_cape) (pc := 3) (As := [.int x1, .int (9 : Int32)]) yf_X9_isBelow (by decide +kernel) (ok_X9_isBelow x1 (9 : Int32) M _  hq1) tw_473 tw_472 rfl rfl (Nat.le_of_ble_eq_true rfl) dX9_cape_3 ?_
  refine V_if_eq (Y := m_X9_cape) (pc := 6) (tgt := 19) dX9_cape_6 (by decide +kernel) hf (fun hf => ?_) (fun hf => ?_)
  · refine V_ldc (Y := m_X9_cape) (pc := 19) (x := (-1000000001 : Int32)) dX9_cape_19 tw_481 ?_
    obtain rfl := Option.some.inj hf
    exact V_iret (Y := m_X9_cape) rfl dX9_cape_21
  · refine V_iload_n (Y := m_X9_cape) (pc := 9) 2 dX9_cape_9 rfl ?_
    refine V_iconst (Y := m_X9_cape) (pc := 10) (x := (0 : Int32)) dX9_cape_10 (by decide +kernel) ?_
    refine V_bipush (Y := m_X9_cape) (pc := 11) (x := (7 : Int32)) dX9_cape_11 (by decide +kernel) ?_
    obtain ⟨q2, hq2, hf⟩ := g_bind hf
    refine V_cSi (Y := m_X9_cape) (pc := 13) (As := [.int x2, .int (0 : Int32), .int (7 : Int32)]) yf_X9_isWithin (by decide +kernel) (ok_X9_isWithin x2 (0 : Int32) (7 : Int32) q1.2 _  hq2) tw_479 tw_478 rfl rfl (Nat.le_of_ble_eq_true rfl) dX9_cape_13 ?_
    refine V_if_ne (Y := m_X9_cape) (pc := 16) (tgt := 22) dX9_cape_16 (by decide +kernel) hf (fun hf => ?_) (fun hf => ?_)
    · refine V_aload_n (Y := m_X9_cape) (pc := 22) 0 dX9_cape_22 rfl ?_
      refine V_grL (Y := m_X9_cape) (pc := 23) (x := 4) 3 kX9 sC_0 (by decide +kernel) rfl rfl tw_432 dX9_cape_23 ?_
      refine V_aload_n (Y := m_X9_cape) (pc := 26) 0 dX9_cape_26 rfl ?_
      refine V_grL (Y := m_X9_cape) (pc := 27) (x := 48) 1 kX9 sC_0 (by decide +kernel) rfl rfl tw_430 dX9_cape_27 ?_
      refine V_iload_n (Y := m_X9_cape) (pc := 30) 1 dX9_cape_30 rfl ?_
      obtain ⟨q3, hq3, hf⟩ := g_bind hf
      refine V_cVv (Y := m_X9_cape) (pc := 31) (As := [.ref (b + 48), .int x1]) yf_X1_look kX1 sC_4 (by decide +kernel) (ok_X1_look 48 x1 q2.2 _ sC_48 hq3) tw_718 tw_719 tw_717 rfl rfl (Nat.le_of_ble_eq_true rfl) dX9_cape_31 ?_
      refine V_aload_n (Y := m_X9_cape) (pc := 34) 0 dX9_cape_34 rfl ?_
      refine V_grL (Y := m_X9_cape) (pc := 35) (x := 4) 3 kX9 sC_0 (by decide +kernel) rfl rfl tw_432 dX9_cape_35 ?_
      obtain ⟨q4, hq4, hf⟩ := g_bind hf
      refine V_cVi (Y := m_X9_cape) (pc := 38) (As := []) yf_X1_areSeen kX1 sC_4 (by decide +kernel) (ok_X1_areSeen  q3.2 _  hq4) tw_735 tw_736 tw_734 rfl rfl (Nat.le_of_ble_eq_true rfl) dX9_cape_38 ?_
      refine V_if_ne (Y := m_X9_cape) (pc := 41) (tgt := 56) dX9_cape_41 (by decide +kernel) hf (fun hf => ?_) (fun hf => ?_)
      · exact V_sub [0, 2] rfl (ok_X9_cape_b56  x2 q4.2 z  hf)
      · refine V_iload_n (Y := m_X9_cape) (pc := 44) 2 dX9_cape_44 rfl ?_
        refine V_iconst (Y := m_X9_cape) (pc := 45) (x := (1 : Int32)) dX9_cape_45 (by decide +kernel) ?_
        refine V_iconst (Y := m_X9_cape) (pc := 46) (x := (4 : Int32)) dX9_cape_46 (by decide +kernel) ?_
        obtain ⟨q5, hq5, hf⟩ := g_bind hf
        refine V_cSi (Y := m_X9_cape) (pc := 47) (As := [.int x2, .int (1 : Int32), .int (4 : Int32)]) yf_X9_isWithin (by decide +kernel) (ok_X9_isWithin x2 (1 : Int32) (4 : Int32) q4.2 _  hq5) tw_479 tw_478 rfl rfl (Nat.le_of_ble_eq_true rfl) dX9_cape_47 ?_
        refine V_if_eq (Y := m_X9_cape) (pc := 50) (tgt := 56) dX9_cape_50 (by decide +kernel) hf (fun hf => ?_) (fun hf => ?_)
        · exact V_sub [0, 2] rfl (ok_X9_cape_b56  x2 q5.2 z  hf)
        · refine V_ldc (Y := m_X9_cape) (pc := 53) (x := (-1000000005 : Int32)) dX9_cape_53 tw_562 ?_
          obtain rfl := Option.some.inj hf
          exact V_iret (Y := m_X9_cape) rfl dX9_cape_55
    · refine V_ldc (Y := m_X9_cape) (pc := 19) (x := (-1000000001 : Int32)) dX9_cape_19 tw_481 ?_
      obtain rfl := Option.some.inj hf
      exact V_iret (Y := m_X9_cape) rfl dX9_cape_21
def f_X9_cape (x1 : Int32) (x2 : Int32) (M : Mem) : Option (Int32 × Mem) := f_X9_cape_b0 x1 x2 M
set_option maxRecDepth 20000 in
set_option maxHeartbeats 4000000 in
theorem ok_X9_cape {l : Launch} {g : Gam} {b : Nat} : ∀ (x1 : Int32) (x2 : Int32) (M : Mem) (z : Int32 × Mem), f_X9_cape x1 x2 M = some z → Cn l g (wC b) m_X9_cape [.ref (b + 0), .int x1, .int x2] M (some (.int z.1)) z.2 := fun x1 x2 M z  hf => Cn_of (by decide +kernel) (Nat.le_of_ble_eq_true rfl) (V_sub [0, 1, 2] rfl (ok_X9_cape_b0 x1 x2 M z  hf))

abbrev m_X9_capes : Mth := (yX9_capes, cX9_capes, 5, some .int, 7)
theorem yf_X9_capes : YF m_X9_capes 1 := ⟨tw_759, tw_65, by decide +kernel, by decide +kernel⟩
def f_X9_capes_b85 (k16 : Int32 → Int32 → Int32 → Mem → Option (Int32 × Mem)) (x1 : Int32) (x3 : Int32) (s0 : Int32) (s1 : Int32) (M : Mem) : Option (Int32 × Mem) :=
  k16 x1 (s1 ||| s0) (x3 + (1 : Int32)) M
set_option maxRecDepth 20000 in
set_option maxHeartbeats 4000000 in
theorem ok_X9_capes_b85 {l : Launch} {g : Gam} {b : Nat} (k16 : Int32 → Int32 → Int32 → Mem → Option (Int32 × Mem)) (hk16 : ∀ (x1 : Int32) (x2 : Int32) (x3 : Int32) (M : Mem) (z : Int32 × Mem), k16 x1 x2 x3 M = some z → V l g (wC b) m_X9_capes 16 [(0, .ref (b + 0)), (1, .int x1), (2, .int x2), (3, .int x3)] [] M (some (.int z.1)) z.2) (x1 : Int32) (x3 : Int32) (s0 : Int32) (s1 : Int32) (M : Mem) (z : Int32 × Mem)  (hf : f_X9_capes_b85 k16 x1 x3 s0 s1 M = some z) : V l g (wC b) m_X9_capes 85 [(0, .ref (b + 0)), (1, .int x1), (3, .int x3)] [.int s0, .int s1] M (some (.int z.1)) z.2 := by
  unfold f_X9_capes_b85 at hf
  refine V_ior (Y := m_X9_capes) (pc := 85) dX9_capes_85 ?_
  refine V_istore_n (Y := m_X9_capes) (pc := 86) [(2, .int (s1 ||| s0)), (0, .ref (b + 0)), (1, .int x1), (3, .int x3)] dX9_capes_86 (by decide +kernel) rfl ?_
  refine V_iinc (Y := m_X9_capes) (pc := 87) (y := (x3 + (1 : Int32))) 3 [(3, .int (x3 + (1 : Int32))), (2, .int (s1 ||| s0)), (0, .ref (b + 0)), (1, .int x1)] dX9_capes_87 rfl rfl (by decide +kernel) rfl ?_
  refine V_goto (Y := m_X9_capes) (pc := 90) (tgt := 16) dX9_capes_90 (by decide +kernel) ?_
  exact V_sub [2, 3, 1, 0] rfl (hk16 x1 (s1 ||| s0) (x3 + (1 : Int32)) M z  hf)
def f_X9_capes_b70 (k16 : Int32 → Int32 → Int32 → Mem → Option (Int32 × Mem)) (x1 : Int32) (x2 : Int32) (x3 : Int32) (s0 : Int32) (M : Mem) : Option (Int32 × Mem) :=
  if s0 = 0 then
    f_X9_capes_b85 k16 x1 x3 (0 : Int32) x2 M
  else
    f_X9_capes_b85 k16 x1 x3 ((1 : Int32) <<< (x3 &&& 31)) x2 M
set_option maxRecDepth 20000 in
set_option maxHeartbeats 4000000 in
theorem ok_X9_capes_b70 {l : Launch} {g : Gam} {b : Nat} (k16 : Int32 → Int32 → Int32 → Mem → Option (Int32 × Mem)) (hk16 : ∀ (x1 : Int32) (x2 : Int32) (x3 : Int32) (M : Mem) (z : Int32 × Mem), k16 x1 x2 x3 M = some z → V l g (wC b) m_X9_capes 16 [(0, .ref (b + 0)), (1, .int x1), (2, .int x2), (3, .int x3)] [] M (some (.int z.1)) z.2) (x1 : Int32) (x2 : Int32) (x3 : Int32) (s0 : Int32) (M : Mem) (z : Int32 × Mem)  (hf : f_X9_capes_b70 k16 x1 x2 x3 s0 M = some z) : V l g (wC b) m_X9_capes 70 [(0, .ref (b + 0)), (1, .int x1), (2, .int x2), (3, .int x3)] [.int s0] M (some (.int z.1)) z.2 := by
  unfold f_X9_capes_b70 at hf
  refine V_istore (Y := m_X9_capes) (pc := 70) [(4, .int s0), (0, .ref (b + 0)), (1, .int x1), (2, .int x2), (3, .int x3)] dX9_capes_70 (by decide +kernel) rfl ?_
  refine V_iload_n (Y := m_X9_capes) (pc := 72) 3 dX9_capes_72 rfl ?_
  refine V_iload (Y := m_X9_capes) (pc := 73) 0 dX9_capes_73 rfl ?_
  refine V_if_eq (Y := m_X9_capes) (pc := 75) (tgt := 84) dX9_capes_75 (by decide +kernel) hf (fun hf => ?_) (fun hf => ?_)
  · refine V_iconst (Y := m_X9_capes) (pc := 84) (x := (0 : Int32)) dX9_capes_84 (by decide +kernel) ?_
    exact V_sub [1, 2, 4] rfl (ok_X9_capes_b85 k16 hk16 x1 x3 (0 : Int32) x2 M z  hf)
  · refine V_iconst (Y := m_X9_capes) (pc := 78) (x := (1 : Int32)) dX9_capes_78 (by decide +kernel) ?_
    refine V_iload_n (Y := m_X9_capes) (pc := 79) 4 dX9_capes_79 rfl ?_
    refine V_ishl (Y := m_X9_capes) (pc := 80) dX9_capes_80 ?_
    refine V_goto (Y := m_X9_capes) (pc := 81) (tgt := 85) dX9_capes_81 (by decide +kernel) ?_
    exact V_sub [1, 2, 4] rfl (ok_X9_capes_b85 k16 hk16 x1 x3 ((1 : Int32) <<< (x3 &&& 31)) x2 M z  hf)
def f_X9_capes_b16  : Nat → Int32 → Int32 → Int32 → Mem → Option (Int32 × Mem)
  | 0, _, _, _, _ => none
  | n + 1, x1, x2, x3, M =>
    if (9 : Int32) ≤ x3 then
      some (x2, M)
    else
      (f_X1_look 48 x3 M).bind fun q1 =>
      if x1 = 0 then
        (f_X1_areSeen  q1.2).bind fun q4 =>
        f_X9_capes_b70 (f_X9_capes_b16  n) x1 x2 x3 q4.1 q4.2
      else
        if x1 = (1 : Int32) then
          (f_X1_hold  q1.2).bind fun q3 =>
          f_X9_capes_b70 (f_X9_capes_b16  n) x1 x2 x3 q3.1 q3.2
        else
          (f_X1_standOnOne  q1.2).bind fun q2 =>
          f_X9_capes_b70 (f_X9_capes_b16  n) x1 x2 x3 q2.1 q2.2
set_option maxRecDepth 20000 in
set_option maxHeartbeats 4000000 in
theorem ok_X9_capes_b16 {l : Launch} {g : Gam} {b : Nat}   : ∀ (n : Nat) (x1 : Int32) (x2 : Int32) (x3 : Int32) (M : Mem) (z : Int32 × Mem), f_X9_capes_b16  n x1 x2 x3 M = some z → V l g (wC b) m_X9_capes 16 [(0, .ref (b + 0)), (1, .int x1), (2, .int x2), (3, .int x3)] [] M (some (.int z.1)) z.2 := by
  intro n
  induction n with
  | zero =>
    intro x1 x2 x3 M z  hf
    cases hf
  | succ n ih =>
    intro x1 x2 x3 M z  hf
    rw [f_X9_capes_b16] at hf
    refine V_iload_n (Y := m_X9_capes) (pc := 16) 3 dX9_capes_16 rfl ?_
    refine V_bipush (Y := m_X9_capes) (pc := 17) (x := (9 : Int32)) dX9_capes_17 (by decide +kernel) ?_
    refine V_icmp_ge (Y := m_X9_capes) (pc := 19) (tgt := 93) dX9_capes_19 (by decide +kernel) hf (fun hf => ?_) (fun hf => ?_)
    · refine V_iload_n (Y := m_X9_capes) (pc := 93) 2 dX9_capes_93 rfl ?_
      obtain rfl := Option.some.inj hf
      exact V_iret (Y := m_X9_capes) rfl dX9_capes_94
    · refine V_aload_n (Y := m_X9_capes) (pc := 22) 0 dX9_capes_22 rfl ?_
      refine V_grL (Y := m_X9_capes) (pc := 23) (x := 4) 3 kX9 sC_0 (by decide +kernel) rfl rfl tw_432 dX9_capes_23 ?_
      refine V_aload_n (Y := m_X9_capes) (pc := 26) 0 dX9_capes_26 rfl ?_
      refine V_grL (Y := m_X9_capes) (pc := 27) (x := 48) 1 kX9 sC_0 (by decide +kernel) rfl rfl tw_430 dX9_capes_27 ?_
      refine V_iload_n (Y := m_X9_capes) (pc := 30) 3 dX9_capes_30 rfl ?_
      obtain ⟨q1, hq1, hf⟩ := g_bind hf
      refine V_cVv (Y := m_X9_capes) (pc := 31) (As := [.ref (b + 48), .int x3]) yf_X1_look kX1 sC_4 (by decide +kernel) (ok_X1_look 48 x3 M _ sC_48 hq1) tw_718 tw_719 tw_717 rfl rfl (Nat.le_of_ble_eq_true rfl) dX9_capes_31 ?_
      refine V_iload_n (Y := m_X9_capes) (pc := 34) 1 dX9_capes_34 rfl ?_
      refine V_if_ne (Y := m_X9_capes) (pc := 35) (tgt := 48) dX9_capes_35 (by decide +kernel) hf (fun hf => ?_) (fun hf => ?_)
      · refine V_iload_n (Y := m_X9_capes) (pc := 48) 1 dX9_capes_48 rfl ?_
        refine V_iconst (Y := m_X9_capes) (pc := 49) (x := (1 : Int32)) dX9_capes_49 (by decide +kernel) ?_
        refine V_icmp_ne (Y := m_X9_capes) (pc := 50) (tgt := 63) dX9_capes_50 (by decide +kernel) hf (fun hf => ?_) (fun hf => ?_)
        · refine V_aload_n (Y := m_X9_capes) (pc := 63) 0 dX9_capes_63 rfl ?_
          refine V_grL (Y := m_X9_capes) (pc := 64) (x := 4) 3 kX9 sC_0 (by decide +kernel) rfl rfl tw_432 dX9_capes_64 ?_
          obtain ⟨q2, hq2, hf⟩ := g_bind hf
          refine V_cVi (Y := m_X9_capes) (pc := 67) (As := []) yf_X1_standOnOne kX1 sC_4 (by decide +kernel) (ok_X1_standOnOne  q1.2 _  hq2) tw_747 tw_748 tw_746 rfl rfl (Nat.le_of_ble_eq_true rfl) dX9_capes_67 ?_
          exact V_sub [0, 1, 2, 3] rfl (ok_X9_capes_b70 (f_X9_capes_b16  n) ih x1 x2 x3 q2.1 q2.2 z  hf)
        · refine V_aload_n (Y := m_X9_capes) (pc := 53) 0 dX9_capes_53 rfl ?_
          refine V_grL (Y := m_X9_capes) (pc := 54) (x := 4) 3 kX9 sC_0 (by decide +kernel) rfl rfl tw_432 dX9_capes_54 ?_
          obtain ⟨q3, hq3, hf⟩ := g_bind hf
          refine V_cVi (Y := m_X9_capes) (pc := 57) (As := []) yf_X1_hold kX1 sC_4 (by decide +kernel) (ok_X1_hold  q1.2 _  hq3) tw_743 tw_744 tw_742 rfl rfl (Nat.le_of_ble_eq_true rfl) dX9_capes_57 ?_
          refine V_goto (Y := m_X9_capes) (pc := 60) (tgt := 70) dX9_capes_60 (by decide +kernel) ?_
          exact V_sub [0, 1, 2, 3] rfl (ok_X9_capes_b70 (f_X9_capes_b16  n) ih x1 x2 x3 q3.1 q3.2 z  hf)
      · refine V_aload_n (Y := m_X9_capes) (pc := 38) 0 dX9_capes_38 rfl ?_
        refine V_grL (Y := m_X9_capes) (pc := 39) (x := 4) 3 kX9 sC_0 (by decide +kernel) rfl rfl tw_432 dX9_capes_39 ?_
        obtain ⟨q4, hq4, hf⟩ := g_bind hf
        refine V_cVi (Y := m_X9_capes) (pc := 42) (As := []) yf_X1_areSeen kX1 sC_4 (by decide +kernel) (ok_X1_areSeen  q1.2 _  hq4) tw_735 tw_736 tw_734 rfl rfl (Nat.le_of_ble_eq_true rfl) dX9_capes_42 ?_
        refine V_goto (Y := m_X9_capes) (pc := 45) (tgt := 70) dX9_capes_45 (by decide +kernel) ?_
        exact V_sub [0, 1, 2, 3] rfl (ok_X9_capes_b70 (f_X9_capes_b16  n) ih x1 x2 x3 q4.1 q4.2 z  hf)
def f_X9_capes_b0  (x1 : Int32) (M : Mem) : Option (Int32 × Mem) :=
  (f_X9_isWithin x1 (0 : Int32) (2 : Int32) M).bind fun q1 =>
  if q1.1 = 0 then
    some ((-1000000001 : Int32), q1.2)
  else
    f_X9_capes_b16  FU x1 (0 : Int32) (0 : Int32) q1.2
set_option maxRecDepth 20000 in
set_option maxHeartbeats 4000000 in
theorem ok_X9_capes_b0 {l : Launch} {g : Gam} {b : Nat}   (x1 : Int32) (M : Mem) (z : Int32 × Mem)  (hf : f_X9_capes_b0 x1 M = some z) : V l g (wC b) m_X9_capes 0 [(0, .ref (b + 0)), (1, .int x1)] [] M (some (.int z.1)) z.2 := by
  unfold f_X9_capes_b0 at hf
  refine V_iload_n (Y := m_X9_capes) (pc := 0) 1 dX9_capes_0 rfl ?_
  refine V_iconst (Y := m_X9_capes) (pc := 1) (x := (0 : Int32)) dX9_capes_1 (by decide +kernel) ?_
  refine V_iconst (Y := m_X9_capes) (pc := 2) (x := (2 : Int32)) dX9_capes_2 (by decide +kernel) ?_
  obtain ⟨q1, hq1, hf⟩ := g_bind hf
  refine V_cSi (Y := m_X9_capes) (pc := 3) (As := [.int x1, .int (0 : Int32), .int (2 : Int32)]) yf_X9_isWithin (by decide +kernel) (ok_X9_isWithin x1 (0 : Int32) (2 : Int32) M _  hq1) tw_479 tw_478 rfl rfl (Nat.le_of_ble_eq_true rfl) dX9_capes_3 ?_
  refine V_if_ne (Y := m_X9_capes) (pc := 6) (tgt := 12) dX9_capes_6 (by decide +kernel) hf (fun hf => ?_) (fun hf => ?_)
  · refine V_iconst (Y := m_X9_capes) (pc := 12) (x := (0 : Int32)) dX9_capes_12 (by decide +kernel) ?_
    refine V_istore_n (Y := m_X9_capes) (pc := 13) [(2, .int (0 : Int32)), (0, .ref (b + 0)), (1, .int x1)] dX9_capes_13 (by decide +kernel) rfl ?_
    refine V_iconst (Y := m_X9_capes) (pc := 14) (x := (0 : Int32)) dX9_capes_14 (by decide +kernel) ?_
    refine V_istore_n (Y := m_X9_capes) (pc := 15) [(3, .int (0 : Int32)), (2, .int (0 : Int32)), (0, .ref (b + 0)), (1, .int x1)] dX9_capes_15 (by decide +kernel) rfl ?_
    exact V_sub [2, 3, 1, 0] rfl (ok_X9_capes_b16  FU x1 (0 : Int32) (0 : Int32) q1.2 z  hf)
  · refine V_ldc (Y := m_X9_capes) (pc := 9) (x := (-1000000001 : Int32)) dX9_capes_9 tw_481 ?_
    obtain rfl := Option.some.inj hf
    exact V_iret (Y := m_X9_capes) rfl dX9_capes_11
def f_X9_capes (x1 : Int32) (M : Mem) : Option (Int32 × Mem) := f_X9_capes_b0 x1 M
set_option maxRecDepth 20000 in
set_option maxHeartbeats 4000000 in
theorem ok_X9_capes {l : Launch} {g : Gam} {b : Nat} : ∀ (x1 : Int32) (M : Mem) (z : Int32 × Mem), f_X9_capes x1 M = some z → Cn l g (wC b) m_X9_capes [.ref (b + 0), .int x1] M (some (.int z.1)) z.2 := fun x1 M z  hf => Cn_of (by decide +kernel) (Nat.le_of_ble_eq_true rfl) (V_sub [0, 1] rfl (ok_X9_capes_b0 x1 M z  hf))

abbrev m_X9_next : Mth := (yX9_next, cX9_next, 4, some .int, 7)
theorem yf_X9_next : YF m_X9_next 0 := ⟨tw_763, tw_65, by decide +kernel, by decide +kernel⟩
def f_X9_next_b56 (k7 : Int32 → Int32 → Int32 → Mem → Option (Int32 × Mem)) (x1 : Int32) (x2 : Int32) (x3 : Int32) (M : Mem) : Option (Int32 × Mem) :=
  k7 x1 x2 (x3 + (1 : Int32)) M
set_option maxRecDepth 20000 in
set_option maxHeartbeats 4000000 in
theorem ok_X9_next_b56 {l : Launch} {g : Gam} {b : Nat} (k7 : Int32 → Int32 → Int32 → Mem → Option (Int32 × Mem)) (hk7 : ∀ (x1 : Int32) (x2 : Int32) (x3 : Int32) (M : Mem) (z : Int32 × Mem), k7 x1 x2 x3 M = some z → V l g (wC b) m_X9_next 7 [(0, .ref (b + 0)), (1, .int x1), (2, .int x2), (3, .int x3)] [] M (some (.int z.1)) z.2) (x1 : Int32) (x2 : Int32) (x3 : Int32) (M : Mem) (z : Int32 × Mem)  (hf : f_X9_next_b56 k7 x1 x2 x3 M = some z) : V l g (wC b) m_X9_next 56 [(0, .ref (b + 0)), (1, .int x1), (2, .int x2), (3, .int x3)] [] M (some (.int z.1)) z.2 := by
  unfold f_X9_next_b56 at hf
  refine V_iinc (Y := m_X9_next) (pc := 56) (y := (x3 + (1 : Int32))) 3 [(3, .int (x3 + (1 : Int32))), (0, .ref (b + 0)), (1, .int x1), (2, .int x2)] dX9_next_56 rfl rfl (by decide +kernel) rfl ?_
  refine V_goto (Y := m_X9_next) (pc := 59) (tgt := 7) dX9_next_59 (by decide +kernel) ?_
  exact V_sub [1, 2, 3, 0] rfl (hk7 x1 x2 (x3 + (1 : Int32)) M z  hf)
def f_X9_next_b7  : Nat → Int32 → Int32 → Int32 → Mem → Option (Int32 × Mem)
  | 0, _, _, _, _ => none
  | n + 1, x1, x2, x3, M =>
    if (9 : Int32) ≤ x3 then
      some (x1, M)
    else
      (f_X1_look 48 x3 M).bind fun q1 =>
      (f_X1_hold  q1.2).bind fun q2 =>
      if q2.1 = 0 then
        f_X9_next_b56 (f_X9_next_b7  n) x1 x2 x3 q2.2
      else
        (f_X1_width  q2.2).bind fun q3 =>
        if q3.1 ≤ x2 then
          f_X9_next_b56 (f_X9_next_b7  n) x1 x2 x3 q3.2
        else
          (f_X1_width  q3.2).bind fun q4 =>
          f_X9_next_b56 (f_X9_next_b7  n) x3 q4.1 x3 q4.2
set_option maxRecDepth 20000 in
set_option maxHeartbeats 4000000 in
theorem ok_X9_next_b7 {l : Launch} {g : Gam} {b : Nat}   : ∀ (n : Nat) (x1 : Int32) (x2 : Int32) (x3 : Int32) (M : Mem) (z : Int32 × Mem), f_X9_next_b7  n x1 x2 x3 M = some z → V l g (wC b) m_X9_next 7 [(0, .ref (b + 0)), (1, .int x1), (2, .int x2), (3, .int x3)] [] M (some (.int z.1)) z.2 := by
  intro n
  induction n with
  | zero =>
    intro x1 x2 x3 M z  hf
    cases hf
  | succ n ih =>
    intro x1 x2 x3 M z  hf
    rw [f_X9_next_b7] at hf
    refine V_iload_n (Y := m_X9_next) (pc := 7) 3 dX9_next_7 rfl ?_
    refine V_bipush (Y := m_X9_next) (pc := 8) (x := (9 : Int32)) dX9_next_8 (by decide +kernel) ?_
    refine V_icmp_ge (Y := m_X9_next) (pc := 10) (tgt := 62) dX9_next_10 (by decide +kernel) hf (fun hf => ?_) (fun hf => ?_)
    · refine V_iload_n (Y := m_X9_next) (pc := 62) 1 dX9_next_62 rfl ?_
      obtain rfl := Option.some.inj hf
      exact V_iret (Y := m_X9_next) rfl dX9_next_63
    · refine V_aload_n (Y := m_X9_next) (pc := 13) 0 dX9_next_13 rfl ?_
      refine V_grL (Y := m_X9_next) (pc := 14) (x := 4) 3 kX9 sC_0 (by decide +kernel) rfl rfl tw_432 dX9_next_14 ?_
      refine V_aload_n (Y := m_X9_next) (pc := 17) 0 dX9_next_17 rfl ?_
      refine V_grL (Y := m_X9_next) (pc := 18) (x := 48) 1 kX9 sC_0 (by decide +kernel) rfl rfl tw_430 dX9_next_18 ?_
      refine V_iload_n (Y := m_X9_next) (pc := 21) 3 dX9_next_21 rfl ?_
      obtain ⟨q1, hq1, hf⟩ := g_bind hf
      refine V_cVv (Y := m_X9_next) (pc := 22) (As := [.ref (b + 48), .int x3]) yf_X1_look kX1 sC_4 (by decide +kernel) (ok_X1_look 48 x3 M _ sC_48 hq1) tw_718 tw_719 tw_717 rfl rfl (Nat.le_of_ble_eq_true rfl) dX9_next_22 ?_
      refine V_aload_n (Y := m_X9_next) (pc := 25) 0 dX9_next_25 rfl ?_
      refine V_grL (Y := m_X9_next) (pc := 26) (x := 4) 3 kX9 sC_0 (by decide +kernel) rfl rfl tw_432 dX9_next_26 ?_
      obtain ⟨q2, hq2, hf⟩ := g_bind hf
      refine V_cVi (Y := m_X9_next) (pc := 29) (As := []) yf_X1_hold kX1 sC_4 (by decide +kernel) (ok_X1_hold  q1.2 _  hq2) tw_743 tw_744 tw_742 rfl rfl (Nat.le_of_ble_eq_true rfl) dX9_next_29 ?_
      refine V_if_eq (Y := m_X9_next) (pc := 32) (tgt := 56) dX9_next_32 (by decide +kernel) hf (fun hf => ?_) (fun hf => ?_)
      · exact V_sub [0, 1, 2, 3] rfl (ok_X9_next_b56 (f_X9_next_b7  n) ih x1 x2 x3 q2.2 z  hf)
      · refine V_aload_n (Y := m_X9_next) (pc := 35) 0 dX9_next_35 rfl ?_
        refine V_grL (Y := m_X9_next) (pc := 36) (x := 4) 3 kX9 sC_0 (by decide +kernel) rfl rfl tw_432 dX9_next_36 ?_
        obtain ⟨q3, hq3, hf⟩ := g_bind hf
        refine V_cVi (Y := m_X9_next) (pc := 39) (As := []) yf_X1_width kX1 sC_4 (by decide +kernel) (ok_X1_width  q2.2 _  hq3) tw_739 tw_740 tw_738 rfl rfl (Nat.le_of_ble_eq_true rfl) dX9_next_39 ?_
        refine V_iload_n (Y := m_X9_next) (pc := 42) 2 dX9_next_42 rfl ?_
        refine V_icmp_le (Y := m_X9_next) (pc := 43) (tgt := 56) dX9_next_43 (by decide +kernel) hf (fun hf => ?_) (fun hf => ?_)
        · exact V_sub [0, 1, 2, 3] rfl (ok_X9_next_b56 (f_X9_next_b7  n) ih x1 x2 x3 q3.2 z  hf)
        · refine V_iload_n (Y := m_X9_next) (pc := 46) 3 dX9_next_46 rfl ?_
          refine V_istore_n (Y := m_X9_next) (pc := 47) [(1, .int x3), (0, .ref (b + 0)), (2, .int x2), (3, .int x3)] dX9_next_47 (by decide +kernel) rfl ?_
          refine V_aload_n (Y := m_X9_next) (pc := 48) 1 dX9_next_48 rfl ?_
          refine V_grL (Y := m_X9_next) (pc := 49) (x := 4) 3 kX9 sC_0 (by decide +kernel) rfl rfl tw_432 dX9_next_49 ?_
          obtain ⟨q4, hq4, hf⟩ := g_bind hf
          refine V_cVi (Y := m_X9_next) (pc := 52) (As := []) yf_X1_width kX1 sC_4 (by decide +kernel) (ok_X1_width  q3.2 _  hq4) tw_739 tw_740 tw_738 rfl rfl (Nat.le_of_ble_eq_true rfl) dX9_next_52 ?_
          refine V_istore_n (Y := m_X9_next) (pc := 55) [(2, .int q4.1), (1, .int x3), (0, .ref (b + 0)), (3, .int x3)] dX9_next_55 (by decide +kernel) rfl ?_
          exact V_sub [2, 1, 0, 3] rfl (ok_X9_next_b56 (f_X9_next_b7  n) ih x3 q4.1 x3 q4.2 z  hf)
def f_X9_next_b0   (M : Mem) : Option (Int32 × Mem) :=
  f_X9_next_b7  FU (-1000000005 : Int32) (-1 : Int32) (0 : Int32) M
set_option maxRecDepth 20000 in
set_option maxHeartbeats 4000000 in
theorem ok_X9_next_b0 {l : Launch} {g : Gam} {b : Nat}    (M : Mem) (z : Int32 × Mem)  (hf : f_X9_next_b0  M = some z) : V l g (wC b) m_X9_next 0 [(0, .ref (b + 0))] [] M (some (.int z.1)) z.2 := by
  unfold f_X9_next_b0 at hf
  refine V_ldc (Y := m_X9_next) (pc := 0) (x := (-1000000005 : Int32)) dX9_next_0 tw_562 ?_
  refine V_istore_n (Y := m_X9_next) (pc := 2) [(1, .int (-1000000005 : Int32)), (0, .ref (b + 0))] dX9_next_2 (by decide +kernel) rfl ?_
  refine V_iconst (Y := m_X9_next) (pc := 3) (x := (-1 : Int32)) dX9_next_3 (by decide +kernel) ?_
  refine V_istore_n (Y := m_X9_next) (pc := 4) [(2, .int (-1 : Int32)), (1, .int (-1000000005 : Int32)), (0, .ref (b + 0))] dX9_next_4 (by decide +kernel) rfl ?_
  refine V_iconst (Y := m_X9_next) (pc := 5) (x := (0 : Int32)) dX9_next_5 (by decide +kernel) ?_
  refine V_istore_n (Y := m_X9_next) (pc := 6) [(3, .int (0 : Int32)), (2, .int (-1 : Int32)), (1, .int (-1000000005 : Int32)), (0, .ref (b + 0))] dX9_next_6 (by decide +kernel) rfl ?_
  exact V_sub [3, 2, 1, 0] rfl (ok_X9_next_b7  FU (-1000000005 : Int32) (-1 : Int32) (0 : Int32) M z  hf)
def f_X9_next  (M : Mem) : Option (Int32 × Mem) := f_X9_next_b0  M
set_option maxRecDepth 20000 in
set_option maxHeartbeats 4000000 in
theorem ok_X9_next {l : Launch} {g : Gam} {b : Nat} : ∀  (M : Mem) (z : Int32 × Mem), f_X9_next  M = some z → Cn l g (wC b) m_X9_next [.ref (b + 0)] M (some (.int z.1)) z.2 := fun  M z  hf => Cn_of (by decide +kernel) (Nat.le_of_ble_eq_true rfl) (V_sub [0] rfl (ok_X9_next_b0  M z  hf))

