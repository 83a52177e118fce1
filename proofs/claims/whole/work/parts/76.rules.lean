/-! THE CLAIM OUT OF ONE WALK OF THE LAW'S BODY. Your part is whole_start (and what it stands on); all else here is the same for every law, but numbers. -/
def R_law : String := "CoastThreeLaw"
def lw_P (b : Addr) (xs : List Int32) (args : Array Value) (s : State) : Prop := args = #[.ref b] ∧ s.IntsAt b xs ∧ xs.length ≤ 384 ∧ (Jvm.Cond.and given_1 narrow_1).before args s = true
def lw_Q (_ : Array Value) (s : State) (o : Outcome) (t : State) : Prop := o = .returned (some (.int 1)) ∧ Framed s o t [] 600000 7302250
def lw_Z (below : List Frame) (a : Array Value) (s : State) : State → Prop := fun t => ∃ o, t.status = .running ∧ Ended t below o ∧ lw_Q a s o t
/-- the law's own end, with 1 on the stack, nothing written that was there before, its room as the claim has it -/
theorem lw_ret {p : Program} {l : Launch} {e : Env} {s : State} {m : MethodId} {below : List Frame} {meth : Method} {c : Code} {b : Nat} (hx : p.tables.exec = Jvm.exec) (hb : c.code = code) (hr : meth.sig.returnType = ret) (hlocks : meth.locks = false) {pc : Nat} {H : Heap} {ls : Array Slot} (hdg : decode code pc = .ok (.ireturn, 1)) : W p l e room_1 s m #[Value.ref b] below meth c H [] 600000 7302250 (lw_Z below #[Value.ref b] s) (F0 m pc ls [.int 1]) := by
  intro T hT X
  obtain ⟨fs, hret, hrun, hended, hW, hframe⟩ := X.leave (v := some (.int 1)) (hlocks := hlocks) (fun h => by rw [hr] at h; cases h)
  have hmeth' : T.vm.method? m = some meth := X.method'
  refine ⟨T.setFrames fs, ?_, .returned (some (.int 1)), hrun, hended, rfl, ⟨_, rfl⟩, hW, hframe⟩
  jvm_step X.here [X.here.top, hx, hb, hdg, hmeth', hr, ret, narrow_b1]
  (try refine ⟨rfl, ?_⟩); (try refine ⟨rfl, ?_⟩)
  first | (intro acts; rw [hret _ acts rfl rfl rfl]) | rw [hret _ _ rfl rfl rfl]
  exact Steps.refl _
/-- what holds at the law's entry: the machine, the code, the tables' words (any of lw_tbl by 'hts w (by decide +kernel)'), the script of L ints xs at the cell b, what the Statement gives of the start (any of its parts by flat_of_before) -/
def lw_At (p : Program) (s : State) (m : MethodId) (meth : Method) (c : Code) (b L : Nat) (xs : Nat → Int32) : Prop :=
  p.tables.exec = Jvm.exec ∧ c.code = code ∧ meth.sig.returnType = ret ∧ c.maxLocals = 4 ∧ s.vm.findClass R_law = some m.cls ∧ (∀ w ∈ lw_tbl, w.before #[Value.ref b] s = true) ∧ va_X b L xs s s.heap ∧ b < s.heap.size ∧ meth.locks = false ∧ (Jvm.Cond.and given_1 narrow_1).before #[Value.ref b] s = true
/-! THE LAW: its rules. Two worlds: the class's from s.heap.size on, the model's behind it. -/
/-- what holds all the way -/
def Lc (p : Program) (s : State) (m : MethodId) (meth : Method) (c : Code) (b L : Nat) (xs : Nat → Int32) (g : Gam) : Prop := lw_At p s m meth c b L xs ∧ Evg g s ∧ Ehp g (fun q => s.heap.size ≤ q) s s.heap ∧ L ≤ 384
def LW (p : Program) (l : Launch) (e : Env) (s : State) (m : MethodId) (below : List Frame) (meth : Method) (c : Code) (b : Nat) (g : Gam) (M N : Mem) (pc : Nat) (Ls : List (Nat × Value)) (st : List Value) : Prop :=
  ∀ (H : Heap) (locs : List Loc) (ls : Array Slot), va_P (g.1, g.2.1) vwCl (wws g (wC s.heap.size) M) H → va_P (g.1, g.2.1) vwCl (wws g (wM (s.heap.size + 135)) N) H → va_S (fun q => s.heap.size ≤ q) s.heap H locs → lv_has ls 4 Ls →
    W p l e room_1 s m #[Value.ref b] below meth c H locs 159 14102 (lw_Z below #[Value.ref b] s) (F0 m pc ls st)
def Lv (b B i : Nat) : List (Nat × Value) := [(3, .int (nI i)), (2, .ref (B + 135 + 0)), (1, .ref (B + 0)), (0, .ref b)]
section LR
variable {p : Program} {l : Launch} {e : Env} {s : State} {m : MethodId} {below : List Frame} {meth : Method} {c : Code} {b L : Nat} {xs : Nat → Int32} {g : Gam} {M N : Mem} {pc : Nat} {Ls : List (Nat × Value)} {st : List Value} {i : Nat}
theorem L_aload {a : Nat} (X : Lc p s m meth c b L xs g) (n4 : Fin 4) (k : Nat) (hk : Ls[k]? = some ((n4 : Nat), .ref a)) (hd : decode cL_law pc = .ok (.aload_n n4, 1)) (kk : LW p l e s m below meth c b g M N (pc + 1) Ls (.ref a :: st)) : LW p l e s m below meth c b g M N pc Ls st := by
  intro H locs ls hC hM hS hl
  exact lv_aload_n X.1.1 X.1.2.1 hd rfl (lv_at hl k hk) (kk H locs ls hC hM hS hl)
theorem L_iload {a : Int32} (X : Lc p s m meth c b L xs g) (n4 : Fin 4) (k : Nat) (hk : Ls[k]? = some ((n4 : Nat), .int a)) (hd : decode cL_law pc = .ok (.iload_n n4, 1)) (kk : LW p l e s m below meth c b g M N (pc + 1) Ls (.int a :: st)) : LW p l e s m below meth c b g M N pc Ls st := by
  intro H locs ls hC hM hS hl
  exact lv_iload_n X.1.1 X.1.2.1 hd rfl (lv_at hl k hk) (kk H locs ls hC hM hS hl)
theorem L_sld {k : Nat} (X : Lc p s m meth c b L xs g) (hk : k < L) (hd : decode cL_law pc = .ok (.iaload, 1)) (kk : LW p l e s m below meth c b g M N (pc + 1) Ls (.int (xs k) :: st)) : LW p l e s m below meth c b g M N pc Ls (.int (nI k) :: .ref b :: st) := by
  intro H locs ls hC hM hS hl
  have hL := X.2.2.2
  have hbl := X.1.2.2.2.2.2.2.2.1
  have h1 : (nI k).toNatClampNeg = k := nI_clamp (by omega)
  refine va_sld X.1.1 X.1.2.1 X.1.2.2.2.2.2.2.1 hbl (Nat.not_le.mpr hbl) hS (ixb_in (ixb_t hk (by omega))) hd ?_
  rw [h1]
  exact kk H locs ls hC hM hS hl
/-- the script's number i + j -/
theorem L_arg (X : Lc p s m meth c b L xs g) {j : Nat} {v : Int32} (hv : Int32.ofInt (j : Int) = v) (hj : v = nI j) (hi : i + j < L) (h0 : decode cL_law pc = .ok (.aload_n 0, 1)) (h1 : decode cL_law (pc + 1) = .ok (.iload_n 3, 1)) (h2 : decode cL_law (pc + 2) = .ok (.iconst (j : Int), 1)) (h3 : decode cL_law (pc + 3) = .ok (.iadd, 1)) (h4 : decode cL_law (pc + 4) = .ok (.iaload, 1)) (kk : LW p l e s m below meth c b g M N (pc + 5) (Lv b s.heap.size i) (.int (xs (i + j)) :: st)) : LW p l e s m below meth c b g M N pc (Lv b s.heap.size i) st := by
  refine L_aload X 0 3 rfl h0 (L_iload X 3 0 rfl h1 ?_)
  intro H locs ls hC hM hS hl
  refine lv_iconst X.1.1 X.1.2.1 h2 hv ?_
  refine lv_iadd X.1.1 X.1.2.1 h3 ?_
  have e1 : nI i + v = nI (i + j) := by rw [hj, nI_add]
  rw [e1]
  exact L_sld (pc := pc + 4) X hi h4 kk H locs ls hC hM hS hl
theorem Ehp_now {A : Nat → Prop} {U : State} {H : Heap} {locs : List Loc} (hE : Ehp g (fun q => s.heap.size ≤ q) s s.heap) (hS : va_S (fun q => s.heap.size ≤ q) s.heap H locs) (hA : ∀ q, A q → s.heap.size ≤ q) (hU : U.heap = H) (hW : s.WarmedH U.vm) : Ehp g A U U.heap := by
  rw [hU]
  exact Ehp.moved hW.alike (Ehp.narrow (hE.kept (fun a h1 h2 => hS.2.1 a h1 h2)) hA)
theorem roomL {Y' : Mth} {n : Nat} (hY : YF Y' n) (hd0 : Y'.2.2.2.2 ≤ 200) : (rmD Y'.2.2.2.2).frames + 1 ≤ room_1.frames ∧ 8 + (Y'.2.2.1 + 11) + (rmD Y'.2.2.2.2).locals ≤ room_1.locals := by
  have := hY.2.2.2
  simp only [rmD, room_1]
  omega
theorem L_callC {Y' : Mth} {n idx : Nat} {As : List Value} {v : Int32} {M' : Mem} {st0 : List Value} (X : Lc p s m meth c b L xs g) (hY : YF Y' n) (hcl : Y'.1.cls = RX9) (hd0 : Y'.2.2.2.2 ≤ 200) (hC : Cn l g (wC s.heap.size) Y' (.ref (s.heap.size + 0) :: As) M (some (.int v)) M') (hin : Cond.instanceMethod Y'.1 ∈ TB) (hse : Cond.selects Y'.1.cls Y'.1 Y'.1 ∈ TB) (hw : Cond.methodLink RL idx Y'.1 ∈ TB) (hn : As.length = n) (h0 : st0 = As.reverse ++ .ref (s.heap.size + 0) :: st) (hrm : (st.map fun v => v.category).sum ≤ 8) (hd : decode cL_law pc = .ok (.invokevirtual idx, 3)) (kk : LW p l e s m below meth c b g M' N (pc + 3) Ls (.int v :: st)) : LW p l e s m below meth c b g M N pc Ls st0 := by
  intro H locs ls hPC hPM hS hl
  subst h0
  have ht := tb_in X.1.2.2.2.2.2.1
  have hR := va_runV (Ts := TB) (own := RL) (C := Y'.1.cls) (cells := 159) (slots := 14102) (locs := locs) (R := room_1) (e := e) (below := below) (meth := meth) (g := F0 m pc ls (As.reverse ++ .ref (s.heap.size + 0) :: st)) (rest := st) ⟨X.1.1, X.1.2.1, X.1.2.2.2.1, X.1.2.2.2.2.1, ht⟩ hC ⟨callB_of n ht (goodY hY.1) rfl rfl rfl (ht _ hY.2.1) (ht _ hw) hY.2.2.1 (roomL hY hd0), ht _ hin, ht _ hse⟩ ⟨Cn_blind, va_recv X.2.1.1.1 hPC (ci := 9) (q0 := 0) (q := (Y'.1.cls, TX9, 12)) (by rw [hcl]; rfl) (wws_get (w := wC s.heap.size) sC_0), fun U hU hW => ⟨rfl, by rw [hU]; exact hPC, Evm.warm hW X.2.1.1, Ehp_now X.2.2.1 hS (fun q hq => hq.1) hU hW⟩⟩ rfl hn hl.1 rfl (lv_room hrm) hd ⟨Nat.le_of_ble_eq_true rfl, Nat.le_of_ble_eq_true rfl⟩
  intro T hT X1
  obtain ⟨v', st₀, t, T', L', h0, X', hL, e1, e2, ⟨hv, hb, hz, hk⟩, sg⟩ := hR T hT X1
  cases hv
  rw [h0] at hz hk
  obtain ⟨t2, a1, b1⟩ := kk T'.heap (locs ++ L') ls (by rw [e1]; exact hb) (hPM.kept (fun k q hq => by
      rw [e1]
      refine hk q.1 (hPM k q hq).lt (fun hA => ?_)
      have h2 := (wws_D (g := g) (w := wM (s.heap.size + 135)) (M := N)).2 k q hq
      have h3 := hA.2
      have h4 := h2.1
      have h5 : (wC s.heap.size).2.1.length = 135 := rfl
      rw [h5] at h3
      simp only [wC, wM] at h3 h4
      omega))
    ⟨Nat.le_trans hS.1 (by rw [e1]; exact hz), fun q h1 h2 => by rw [e1, hk q (Nat.lt_of_lt_of_le h1 hS.1) (fun hA => h2 hA.1)]; exact hS.2.1 q h1 h2, fun q hq => by
      rcases List.mem_append.mp hq with h | h
      · exact hS.2.2 q h
      · exact (hL q h).1⟩ hl T' rfl X'
  exact ⟨t2, sg t2 a1, b1⟩
theorem L_callM {Y' : Mth} {n idx : Nat} {As : List Value} {v : Int32} {N' : Mem} {st0 : List Value} (X : Lc p s m meth c b L xs g) (hY : YF Y' n) (hcl : Y'.1.cls = RX10) (hd0 : Y'.2.2.2.2 ≤ 200) (hC : Cn l g (wM (s.heap.size + 135)) Y' (.ref (s.heap.size + 135 + 0) :: As) N (some (.int v)) N') (hin : Cond.instanceMethod Y'.1 ∈ TB) (hse : Cond.selects Y'.1.cls Y'.1 Y'.1 ∈ TB) (hw : Cond.methodLink RL idx Y'.1 ∈ TB) (hn : As.length = n) (h0 : st0 = As.reverse ++ .ref (s.heap.size + 135 + 0) :: st) (hrm : (st.map fun v => v.category).sum ≤ 8) (hd : decode cL_law pc = .ok (.invokevirtual idx, 3)) (kk : LW p l e s m below meth c b g M N' (pc + 3) Ls (.int v :: st)) : LW p l e s m below meth c b g M N pc Ls st0 := by
  intro H locs ls hPC hPM hS hl
  subst h0
  have ht := tb_in X.1.2.2.2.2.2.1
  have hR := va_runV (Ts := TB) (own := RL) (C := Y'.1.cls) (cells := 159) (slots := 14102) (locs := locs) (R := room_1) (e := e) (below := below) (meth := meth) (g := F0 m pc ls (As.reverse ++ .ref (s.heap.size + 135 + 0) :: st)) (rest := st) ⟨X.1.1, X.1.2.1, X.1.2.2.2.1, X.1.2.2.2.2.1, ht⟩ hC ⟨callB_of n ht (goodY hY.1) rfl rfl rfl (ht _ hY.2.1) (ht _ hw) hY.2.2.1 (roomL hY hd0), ht _ hin, ht _ hse⟩ ⟨Cn_blind, va_recv X.2.1.1.1 hPM (ci := 10) (q0 := 0) (q := (Y'.1.cls, TX10, 47)) (by rw [hcl]; rfl) (wws_get (w := wM (s.heap.size + 135)) sM_0), fun U hU hW => ⟨rfl, by rw [hU]; exact hPM, Evm.warm hW X.2.1.1, Ehp_now X.2.2.1 hS (fun q hq => Nat.le_trans (Nat.le_add_right _ _) hq.1) hU hW⟩⟩ rfl hn hl.1 rfl (lv_room hrm) hd ⟨Nat.le_of_ble_eq_true rfl, Nat.le_of_ble_eq_true rfl⟩
  intro T hT X1
  obtain ⟨v', st₀, t, T', L', h0, X', hL, e1, e2, ⟨hv, hb, hz, hk⟩, sg⟩ := hR T hT X1
  cases hv
  rw [h0] at hz hk
  obtain ⟨t2, a1, b1⟩ := kk T'.heap (locs ++ L') ls (hPC.kept (fun k q hq => by
      rw [e1]
      refine hk q.1 (hPC k q hq).lt (fun hA => ?_)
      have h2 := (wws_D (g := g) (w := wC s.heap.size) (M := M)).2 k q hq
      have h3 := hA.1
      have h4 := h2.2
      have h5 : (wC s.heap.size).2.1.length = 135 := rfl
      rw [h5] at h4
      simp only [wC, wM] at h3 h4
      omega)) (by rw [e1]; exact hb)
    ⟨Nat.le_trans hS.1 (by rw [e1]; exact hz), fun q h1 h2 => by rw [e1, hk q (Nat.lt_of_lt_of_le h1 hS.1) (fun hA => h2 (Nat.le_trans (Nat.le_add_right _ _) hA.1))]; exact hS.2.1 q h1 h2, fun q hq => by
      rcases List.mem_append.mp hq with h | h
      · exact hS.2.2 q h
      · exact Nat.le_trans (Nat.le_add_right _ _) (hL q h).1⟩ hl T' rfl X'
  exact ⟨t2, sg t2 a1, b1⟩
theorem L_eq {off : Int} {v : Int32} (X : Lc p s m meth c b L xs g) (hd : decode cL_law pc = .ok (.if_icmp .eq off, 3)) (ht : (pc : Int) + off = ((1680 : Nat) : Int)) (kk : LW p l e s m below meth c b g M N 1680 Ls st) : LW p l e s m below meth c b g M N pc Ls (.int v :: .int v :: st) := by
  intro H locs ls hC hM hS hl
  exact lv_icmp_eq X.1.1 X.1.2.1 hd ht (fun _ => kk H locs ls hC hM hS hl) (fun q => absurd rfl q)
end LR
