/-! CONSTRUCTORS: what they make -/
def gone (rec : Rc) (maxL : Nat) (pg : List (Nat × Mi)) (mc ms : Nat) (As : List Sv) (cs : List Gc) : Option (List Gc × Nat × Nat) := if As.length ≤ maxL then match grun rec pg mc ms 1000 (0, argsL 0 As, [], cs, 0, 0) with
  | some cs' => some (cs', mc, ms)
  | none => none
  else none
def gev : Nat → Rc
  | 0 => fun _ _ _ => none
  | d + 1 => fun x As cs => match x with
    | 0 => gone (gev d) 4 pg_X0 31 245 As cs
    | 1 => gone (gev d) 1 pg_X1 0 0 As cs
    | 2 => gone (gev d) 1 pg_X2 0 0 As cs
    | 3 => gone (gev d) 1 pg_X3 3 35 As cs
    | 4 => gone (gev d) 1 pg_X4 2 192 As cs
    | 5 => gone (gev d) 1 pg_X5 4 66 As cs
    | 6 => gone (gev d) 1 pg_X6 1 24 As cs
    | 7 => gone (gev d) 1 pg_X7 2 27 As cs
    | 8 => gone (gev d) 1 pg_X8 1 96 As cs
    | 9 => gone (gev d) 4 pg_X9 134 2723 As cs
    | 10 => gone (gev d) 2 pg_X10 23 11320 As cs
    | _ => none
def mOf : Nat → Mth
  | 0 => m_X0_init
  | 1 => m_X1_init
  | 2 => m_X2_init
  | 3 => m_X3_init
  | 4 => m_X4_init
  | 5 => m_X5_init
  | 6 => m_X6_init
  | 7 => m_X7_init
  | 8 => m_X8_init
  | 9 => m_X9_init
  | _ => m_X10_init
theorem gone_ok {l : Launch} {g : Gam} {b : Nat} {Y : Mth} {rec : Rc} {maxL : Nat} {pg : List (Nat × Mi)} {mc ms kc nc : Nat} {As : List Sv} {cs cs' : List Gc} (hy : plainName Y.1.cls = true) (hi : Y.1.name = "<init>") (hret : Y.2.2.2.1 = none) (hm : Y.2.2.1 = maxL) (hp : PgOk l g b Y mc ms rec pg) (h : gone rec maxL pg mc ms As cs = some (cs', kc, nc)) : CnG l g b Y kc nc As cs cs' := by
  unfold gone at h
  split at h
  · rename_i q
    split at h
    · rename_i c hc
      cases h
      exact CnG_of hy hi hret (argsL 0 As) (argsL_eq b As 0) (by rw [sl_len, hm]; exact q) (grun_ok hp 1000 _ _ hc)
    · cases h
  · cases h
theorem gev_ok {l : Launch} {g : Gam} {b : Nat} : ∀ (d x : Nat) (As : List Sv) (cs cs' : List Gc) (kc nc : Nat), gev d x As cs = some (cs', kc, nc) → CnG l g b (mOf x) kc nc As cs cs' := by
  intro d
  induction d with
  | zero => intro x As cs cs' kc nc h; cases h
  | succ d ih =>
    intro x As cs cs' kc nc h
    match x, h with
    | 0, h => exact gone_ok (Y := m_X0_init) (by decide +kernel) rfl rfl rfl (po_X0 (ih 2)) h
    | 1, h => exact gone_ok (Y := m_X1_init) (by decide +kernel) rfl rfl rfl po_X1 h
    | 2, h => exact gone_ok (Y := m_X2_init) (by decide +kernel) rfl rfl rfl po_X2 h
    | 3, h => exact gone_ok (Y := m_X3_init) (by decide +kernel) rfl rfl rfl po_X3 h
    | 4, h => exact gone_ok (Y := m_X4_init) (by decide +kernel) rfl rfl rfl po_X4 h
    | 5, h => exact gone_ok (Y := m_X5_init) (by decide +kernel) rfl rfl rfl po_X5 h
    | 6, h => exact gone_ok (Y := m_X6_init) (by decide +kernel) rfl rfl rfl po_X6 h
    | 7, h => exact gone_ok (Y := m_X7_init) (by decide +kernel) rfl rfl rfl (po_X7 (ih 6)) h
    | 8, h => exact gone_ok (Y := m_X8_init) (by decide +kernel) rfl rfl rfl po_X8 h
    | 9, h => exact gone_ok (Y := m_X9_init) (by decide +kernel) rfl rfl rfl (po_X9 (ih 0) (ih 1) (ih 3) (ih 4) (ih 5) (ih 6) (ih 7) (ih 8)) h
    | 10, h => exact gone_ok (Y := m_X10_init) (by decide +kernel) rfl rfl rfl po_X10 h
    | x + 11, h => cases h
/-- the first cell -/
def cs0 (ci : Nat) : List Gc := [.inr (.inl (ci, dfl ci))]
def csC : List Gc := ((gev 3 9 [.inl 0] (cs0 9)).getD ([], 0, 0)).1
def csM : List Gc := ((gev 3 10 [.inl 0] (cs0 10)).getD ([], 0, 0)).1
theorem csC_len : csC.length = 135 := by decide +kernel
theorem csM_len : csM.length = 24 := by decide +kernel
theorem getD_1 {x : Option (List Gc × Nat × Nat)} {n m : Nat} (h : x.isSome = true ∧ ((x.getD ([], 0, 0)).2.1 = n ∧ (x.getD ([], 0, 0)).2.2 = m)) : x = some ((x.getD ([], 0, 0)).1, n, m) := by
  obtain ⟨h1, h2, h3⟩ := h
  cases x with
  | none => cases h1
  | some q =>
    obtain ⟨a, b, c⟩ := q
    cases h2
    cases h3
    rfl
theorem csC_ev : gev 3 9 [.inl 0] (cs0 9) = some (csC, 134, 2723) := getD_1 (by decide +kernel)
theorem csM_ev : gev 3 10 [.inl 0] (cs0 10) = some (csM, 23, 11320) := getD_1 (by decide +kernel)
theorem ctorC {l : Launch} {g : Gam} {b : Nat} : CnG l g b m_X9_init 134 2723 [.inl 0] (cs0 9) csC := gev_ok 3 9 _ _ _ _ _ csC_ev
theorem ctorM {l : Launch} {g : Gam} {b : Nat} : CnG l g b m_X10_init 23 11320 [.inl 0] (cs0 10) csM := gev_ok 3 10 _ _ _ _ _ csM_ev
