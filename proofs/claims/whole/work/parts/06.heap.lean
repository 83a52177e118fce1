section VH
variable {l : Launch} {g : Gam} {w : Wld} {Y : Mth} {pc : Nat} {L : List (Nat × Value)} {st : List Value} {M M2 : Mem} {r : Option Value}
/-- what is known of a class -/
def CF (ci : Nat) (C : String) (T : u_T) (N : Nat) (ty : Nat → FieldType) : Prop := vwCl[ci]? = some (C, T, N) ∧ nf ci = N ∧ (∀ t ∈ u_ws C T N, t ∈ TB) ∧ (∀ k, k < N → parseFieldDescriptor (T k).2.2.1 = some (ty k)) ∧ ∀ a, a < N → ∀ b, b < N → a ≠ b → (T a).2.1 ≠ (T b).2.1
theorem wval_get {b : Nat} {rf : Rfs} {a ci k N : Nat} (hn : nf ci = N) (hk : k < N) : ((List.range (nf ci)).map (wval b rf M a ci))[k]? = some (wval b rf M a ci k) := by
  have h1 : k < nf ci := by omega
  simp [List.getElem?_map, List.getElem?_range h1]
theorem V_gi {ci a idx N : Nat} {C : String} {T : u_T} {ty : Nat → FieldType} (k : Nat) (hc : CF ci C T N ty) (h : w.2.1[a]? = some (1, ci)) (hk : k < N) (h0 : ft ci k = none) (hw : Cond.fieldLink Y.1.cls idx (T k).1 (T k).2.1 (T k).2.2.1 ∈ TB) (hd : decode Y.2.1 pc = .ok (.getfield idx, 3)) (kk : V l g w Y (pc + 3) L (.int (M a k) :: st) M r M2) : V l g w Y pc L (.ref (w.1 + a) :: st) M r M2 := by
  intro p e s m args below meth c H locs ls hx hb hml hr hlk ho ht hE hP hS hl
  refine va_get (ci := ci) (fs := (List.range (nf ci)).map (wval w.1 w.2.2 M a ci)) (v := .int (M a k)) hx hb ht hc.2.2.1 ho hE.1.1 hP a (wws_get h) hc.1 k hk (ht _ hw) (fun x hx => hx) ?_ hd (kk _ _ _ _ _ _ _ _ _ _ _ hx hb hml hr hlk ho ht hE hP hS hl)
  rw [wval_get hc.2.1 hk]
  simp [wval, h0]
theorem V_gr {ci a idx N : Nat} {C : String} {T : u_T} {ty : Nat → FieldType} {sp : Nat × Nat} (k : Nat) (hc : CF ci C T N ty) (h : w.2.1[a]? = some (1, ci)) (hk : k < N) (h0 : ft ci k = some sp) (hw : Cond.fieldLink Y.1.cls idx (T k).1 (T k).2.1 (T k).2.2.1 ∈ TB) (hd : decode Y.2.1 pc = .ok (.getfield idx, 3)) (kk : V l g w Y (pc + 3) L (.ref (w.1 + w.2.2 a k) :: st) M r M2) : V l g w Y pc L (.ref (w.1 + a) :: st) M r M2 := by
  intro p e s m args below meth c H locs ls hx hb hml hr hlk ho ht hE hP hS hl
  refine va_get (ci := ci) (fs := (List.range (nf ci)).map (wval w.1 w.2.2 M a ci)) (v := .ref (w.1 + w.2.2 a k)) hx hb ht hc.2.2.1 ho hE.1.1 hP a (wws_get h) hc.1 k hk (ht _ hw) (fun x hx => hx) ?_ hd (kk _ _ _ _ _ _ _ _ _ _ _ hx hb hml hr hlk ho ht hE hP hS hl)
  rw [wval_get hc.2.1 hk]
  simp [wval, h0]
theorem V_pf {ci a idx N : Nat} {C : String} {T : u_T} {ty : Nat → FieldType} {v : Int32} (k : Nat) (hc : CF ci C T N ty) (h : w.2.1[a]? = some (1, ci)) (hk : k < N) (h0 : ft ci k = none) (hfin : (T k).2.2.2 = false) (hn : narrow (ty k) (.int v) = .int v) (hfit : fits (ty k) (.int v) = true) (hw : Cond.fieldLink Y.1.cls idx (T k).1 (T k).2.1 (T k).2.2.1 ∈ TB) (hd : decode Y.2.1 pc = .ok (.putfield idx, 3)) (kk : V l g w Y (pc + 3) L st (mset M a k v) r M2) : V l g w Y pc L (.int v :: .ref (w.1 + a) :: st) M r M2 := by
  intro p e s m args below meth c H locs ls hx hb hml hr hlk ho ht hE hP hS hl
  refine va_put (ci := ci) (fs := (List.range (nf ci)).map (wval w.1 w.2.2 M a ci)) (v := .int v) (ty := ty k) hx hb ht hc.2.2.1 ty hc.2.2.2.1 hc.2.2.2.2 ho hE.1.1 hP wws_D hS a (wws_get h) hc.1 k hk (ht _ hw) (fun x hx => hx) hfin (hc.2.2.2.1 k hk) hn hfit ?_ hd (fun H1 locs1 hP1 _ hS1 => ?_)
  · rw [List.length_map, List.length_range, hc.2.1]; exact hk
  · rw [wws_obj h h0] at hP1
    exact kk _ _ _ _ _ _ _ _ _ _ _ hx hb hml hr hlk ho ht hE hP1 hS1 hl
theorem V_pi {ci a idx N : Nat} {C : String} {T : u_T} {ty : Nat → FieldType} {v : Int32} (k : Nat) (hc : CF ci C T N ty) (h : w.2.1[a]? = some (1, ci)) (hk : k < N) (h0 : ft ci k = none) (hfin : (T k).2.2.2 = false) (hty : ty k = .int) (hw : Cond.fieldLink Y.1.cls idx (T k).1 (T k).2.1 (T k).2.2.1 ∈ TB) (hd : decode Y.2.1 pc = .ok (.putfield idx, 3)) (kk : V l g w Y (pc + 3) L st (mset M a k v) r M2) : V l g w Y pc L (.int v :: .ref (w.1 + a) :: st) M r M2 :=
  V_pf k hc h hk h0 hfin (by rw [hty]; rfl) (by rw [hty]; rfl) hw hd kk
theorem V_pz {ci a idx N : Nat} {C : String} {T : u_T} {ty : Nat → FieldType} {v : Int32} (k : Nat) (hc : CF ci C T N ty) (h : w.2.1[a]? = some (1, ci)) (hk : k < N) (h0 : ft ci k = none) (hfin : (T k).2.2.2 = false) (hty : ty k = .boolean) (hz : z01 v = true) (hw : Cond.fieldLink Y.1.cls idx (T k).1 (T k).2.1 (T k).2.2.1 ∈ TB) (hd : decode Y.2.1 pc = .ok (.putfield idx, 3)) (kk : V l g w Y (pc + 3) L st (mset M a k v) r M2) : V l g w Y pc L (.int v :: .ref (w.1 + a) :: st) M r M2 := by
  rcases of_decide_eq_true hz with rfl | rfl
  · exact V_pf k hc h hk h0 hfin (by rw [hty]; decide) (by rw [hty]; decide) hw hd kk
  · exact V_pf k hc h hk h0 hfin (by rw [hty]; decide) (by rw [hty]; decide) hw hd kk
theorem V_iald {a n : Nat} {i : Int32} (h : w.2.1[a]? = some (0, n)) (hi : ixb i n = true) (hd : decode Y.2.1 pc = .ok (.iaload, 1)) (kk : V l g w Y (pc + 1) L (.int (M a (ix i)) :: st) M r M2) : V l g w Y pc L (.int i :: .ref (w.1 + a) :: st) M r M2 := by
  intro p e s m args below meth c H locs ls hx hb hml hr hlk ho ht hE hP hS hl
  exact va_iald (tys := gtys g) hx hb hE.1.1 hP a 0 (wws_get h) rfl (ixb_in hi) hd (kk _ _ _ _ _ _ _ _ _ _ _ hx hb hml hr hlk ho ht hE hP hS hl)
theorem V_iast {a n : Nat} {i v : Int32} (h : w.2.1[a]? = some (0, n)) (hi : ixb i n = true) (hd : decode Y.2.1 pc = .ok (.iastore, 1)) (kk : V l g w Y (pc + 1) L st (mset M a (ix i) v) r M2) : V l g w Y pc L (.int v :: .int i :: .ref (w.1 + a) :: st) M r M2 := by
  intro p e s m args below meth c H locs ls hx hb hml hr hlk ho ht hE hP hS hl
  refine va_iast (tys := gtys g) hx hb hE.1.1 hP wws_D hS a 0 (wws_get h) rfl (ixb_in hi) hd (fun H1 locs1 hP1 _ hS1 => ?_)
  rw [wws_arr h] at hP1
  exact kk _ _ _ _ _ _ _ _ _ _ _ hx hb hml hr hlk ho ht hE hP1 hS1 hl
theorem V_aald {a n ec : Nat} {C : String} {i : Int32} (t0 : Nat) (ht0 : (gtys g)[t0]? = some (g.2.2.2.1 ec, .object C)) (h : w.2.1[a]? = some (ec + 2, n)) (hi : ixb i n = true) (hd : decode Y.2.1 pc = .ok (.aaload, 1)) (kk : V l g w Y (pc + 1) L (.ref (w.1 + w.2.2 a (ix i)) :: st) M r M2) : V l g w Y pc L (.int i :: .ref (w.1 + a) :: st) M r M2 := by
  intro p e s m args below meth c H locs ls hx hb hml hr hlk ho ht hE hP hS hl
  exact va_aldq (tys := gtys g) hx hb hE.1.1 hP a t0 (wws_get h) ht0 (ixb_in hi) hd (kk _ _ _ _ _ _ _ _ _ _ _ hx hb hml hr hlk ho ht hE hP hS hl)
theorem V_alen {a n : Nat} {x : Int32} (h : w.2.1[a]? = some (0, n)) (hv : Int32.ofNat n = x) (hd : decode Y.2.1 pc = .ok (.arraylength, 1)) (kk : V l g w Y (pc + 1) L (.int x :: st) M r M2) : V l g w Y pc L (.ref (w.1 + a) :: st) M r M2 := by
  intro p e s m args below meth c H locs ls hx hb hml hr hlk ho ht hE hP hS hl
  exact va_alen (tys := gtys g) (ty := .int) hx hb hE.1.1 hP a 0 (wws_get h) rfl hv hd (kk _ _ _ _ _ _ _ _ _ _ _ hx hb hml hr hlk ho ht hE hP hS hl)
/-! the static row ABOVE -/
theorem V_gsA {idx : Nat} (hw : Cond.fieldLink Y.1.cls idx RX9 "ABOVE" "[I" ∈ TB) (hd : decode Y.2.1 pc = .ok (.getstatic idx, 3)) (kk : V l g w Y (pc + 3) L (.ref g.2.2.2.2.1 :: st) M r M2) : V l g w Y pc L st M r M2 := by
  intro p e s m args below meth c H locs ls hx hb hml hr hlk ho ht hE hP hS hl
  exact va_gets hx hb hE.2.1 hS ho (ht _ hw) (fun x hx => hx) hd (kk _ _ _ _ _ _ _ _ _ _ _ hx hb hml hr hlk ho ht hE hP hS hl)
theorem V_alenA (hd : decode Y.2.1 pc = .ok (.arraylength, 1)) (kk : V l g w Y (pc + 1) L (.int 8 :: st) M r M2) : V l g w Y pc L (.ref g.2.2.2.2.1 :: st) M r M2 := by
  intro p e s m args below meth c H locs ls hx hb hml hr hlk ho ht hE hP hS hl
  exact va_tlen hx hb hE.2.2.1 hS rfl hd (kk _ _ _ _ _ _ _ _ _ _ _ hx hb hml hr hlk ho ht hE hP hS hl)
theorem V_ialdA {i : Int32} (hi : ixb i 8 = true) (hd : decode Y.2.1 pc = .ok (.iaload, 1)) (kk : V l g w Y (pc + 1) L (.int (aboveT (ix i)) :: st) M r M2) : V l g w Y pc L (.int i :: .ref g.2.2.2.2.1 :: st) M r M2 := by
  intro p e s m args below meth c H locs ls hx hb hml hr hlk ho ht hE hP hS hl
  exact va_ti hx hb hE.2.2.1 hS (ixb_in hi) rfl hd (kk _ _ _ _ _ _ _ _ _ _ _ hx hb hml hr hlk ho ht hE hP hS hl)
theorem V_ldcS {idx i : Nat} {tx : String} (hY : Y.1.cls = RX4) (hq : strW[i]? = some (idx, tx)) (hd : decode Y.2.1 pc = .ok (.ldc idx, 2)) (kk : V l g w Y (pc + 2) L (.ref (g.2.2.2.2.2.1 i) :: st) M r M2) : V l g w Y pc L st M r M2 := by
  intro p e s m args below meth c H locs ls hx hb hml hr hlk ho ht hE hP hS hl
  exact va_ldcS (tx := tx) hx hb (by rw [← hY]; exact ho) (hE.1.2.2 i _ hq) hd (kk _ _ _ _ _ _ _ _ _ _ _ hx hb hml hr hlk ho ht hE hP hS hl)
/-! ends -/
theorem V_iret {x : Int32} (hr0 : Y.2.2.2.1 = some .int) (hd : decode Y.2.1 pc = .ok (.ireturn, 1)) : V l g w Y pc L [.int x] M (some (.int x)) M := by
  intro p e s m args below meth c H locs ls hx hb hml hr hlk ho ht hE hP hS hl
  exact W.iret hx hb (hr.trans hr0) (fun t h _ => ⟨rfl, by rw [h]; exact hP, hS.F h⟩) hS.2.2 hd hlk
theorem V_zret {x : Int32} (hz : z01 x = true) (hr0 : Y.2.2.2.1 = some .boolean) (hd : decode Y.2.1 pc = .ok (.ireturn, 1)) : V l g w Y pc L [.int x] M (some (.int x)) M := by
  intro p e s m args below meth c H locs ls hx hb hml hr hlk ho ht hE hP hS hl
  have hn : narrow .boolean (.int x) = .int x := by rcases of_decide_eq_true hz with rfl | rfl <;> decide
  exact W.zret hx hb (hr.trans hr0) hn (fun t h _ => ⟨rfl, by rw [h]; exact hP, hS.F h⟩) hS.2.2 hd hlk
theorem V_cret {x : Int32} (hn : narrow .char (.int x) = .int x) (hr0 : Y.2.2.2.1 = some .char) (hd : decode Y.2.1 pc = .ok (.ireturn, 1)) : V l g w Y pc L [.int x] M (some (.int x)) M := by
  intro p e s m args below meth c H locs ls hx hb hml hr hlk ho ht hE hP hS hl
  exact W.zret hx hb (hr.trans hr0) hn (fun t h _ => ⟨rfl, by rw [h]; exact hP, hS.F h⟩) hS.2.2 hd hlk
theorem V_bret {x : Int32} (hn : narrow .byte (.int x) = .int x) (hr0 : Y.2.2.2.1 = some .byte) (hd : decode Y.2.1 pc = .ok (.ireturn, 1)) : V l g w Y pc L [.int x] M (some (.int x)) M := by
  intro p e s m args below meth c H locs ls hx hb hml hr hlk ho ht hE hP hS hl
  exact W.zret hx hb (hr.trans hr0) hn (fun t h _ => ⟨rfl, by rw [h]; exact hP, hS.F h⟩) hS.2.2 hd hlk
theorem V_vret (hr0 : Y.2.2.2.1 = none) (hd : decode Y.2.1 pc = .ok (.return_, 1)) : V l g w Y pc L [] M none M := by
  intro p e s m args below meth c H locs ls hx hb hml hr hlk ho ht hE hP hS hl
  exact W.vret hx hb (hr.trans hr0) (fun t h _ => ⟨rfl, by rw [h]; exact hP, hS.F h⟩) hS.2.2 hd hlk
theorem V_aret {a : Nat} {C : String} (hr0 : Y.2.2.2.1 = some (.object C)) (hd : decode Y.2.1 pc = .ok (.areturn, 1)) : V l g w Y pc L [.ref a] M (some (.ref a)) M := by
  intro p e s m args below meth c H locs ls hx hb hml hr hlk ho ht hE hP hS hl
  exact W.aret hx hb (hr.trans hr0) (Or.inl ⟨C, rfl⟩) (Or.inr ⟨a, rfl⟩) (fun t h _ => ⟨rfl, by rw [h]; exact hP, hS.F h⟩) hS.2.2 hd hlk
/-! a method's contract out of its walk -/
theorem Cn_of {As : List Value} (hy : plainName Y.1.cls = true) (hn : (lg_sl As).length ≤ Y.2.2.1) (k : V l g w Y 0 (lv_args 0 As) [] M r M2) : Cn l g w Y As M r M2 := by
  refine Met.ofW (cc := Y.2.1) (maxL := Y.2.2.1) (ret := Y.2.2.2.1) (ws' := TB) hy rfl ?_
  intro p e s m args below meth c s₁ B hml hv
  obtain ⟨rfl, hP, hE⟩ := hv
  have hts := atoms_spec (ws := mws Y) B.pre
  have hl := lv_entry As (n := Y.2.2.1) hn
  rw [lg_entry_eq]
  exact k _ _ _ _ _ _ _ _ _ _ _ B.exec B.bytes hml B.returns B.notSynchronized (findClass_of_methodNamed B.named) (fun t h => hts t (List.mem_cons_of_mem _ h)) hE hP va_S.rf hl
/-! calls -/
theorem Cn_blind {As : List Value} : FrameBlind (va_Pc As (fun U => va_P (g.1, g.2.1) vwCl (wws g w M) U.heap ∧ Ev g (wA w) U)) := fun a U f mk q => ⟨q.1, q.2.1, Evm.same (s := U) rfl q.2.2.1, Ehp.moved (u := U) (Vm.Alike.refl U.vm) q.2.2.2⟩
theorem Cn_pre {As : List Value} {s : State} {H : Heap} {locs : List Loc} (hE : Ev g (wA w) s) (hP : va_P (g.1, g.2.1) vwCl (wws g w M) H) (hS : va_S (wA w) s.heap H locs) : ∀ U : State, U.heap = H → s.WarmedH U.vm → va_Pc As (fun U => va_P (g.1, g.2.1) vwCl (wws g w M) U.heap ∧ Ev g (wA w) U) As.toArray U := by
  intro U hU hW
  refine ⟨rfl, by rw [hU]; exact hP, Evm.warm hW hE.1, ?_⟩
  rw [hU]
  exact Ehp.moved hW.alike (hE.2.kept (fun a h1 h2 => hS.2.1 a h1 h2))
theorem V_run {Y' : Mth} {p : Program} {e : Env} {s : State} {m : MethodId} {args : Array Value} {below : List Frame} {meth : Method} {c : Code} {H : Heap} {locs : List Loc} {ls : Array Slot} {st0 : List Value} {As : List Value} {r' : Option Value} {M' : Mem} {Q : State → Prop} {R : Room}
    (hR : va_Run p l e R s m args below meth c H locs 0 0 0 0 (F0 m pc ls st0) st (fun st' o t => o = .returned r' ∧ va_P (g.1, g.2.1) vwCl (wws g w M') t.heap ∧ va_F (wA w) st' t) (wA w)) (hS : va_S (wA w) s.heap H locs)
    (kk : ∀ (H1 : Heap) (locs1 : List Loc), va_P (g.1, g.2.1) vwCl (wws g w M') H1 → va_S (wA w) s.heap H1 locs1 → W p l e R s m args below meth c H1 locs1 0 0 Q (F0 m (pc + 3) ls (r'.toList ++ st))) : W p l e R s m args below meth c H locs 0 0 Q (F0 m pc ls st0) := by
  intro T hT X
  obtain ⟨v, st₀, t, T', L', h0, X', hL, e1, e2, ⟨hv, hb, hz, hk⟩, sg⟩ := hR T hT X
  cases hv
  rw [h0] at hz hk
  obtain ⟨t2, a1, b1⟩ := kk T'.heap (locs ++ L') (by rw [e1]; exact hb)
    ⟨Nat.le_trans hS.1 (by rw [e1]; exact hz), fun q h1 h2 => by rw [e1, hk q (Nat.lt_of_lt_of_le h1 hS.1) h2]; exact hS.2.1 q h1 h2, fun q hq => by
      rcases List.mem_append.mp hq with h | h
      · exact hS.2.2 q h
      · exact hL q h⟩ T' rfl X'
  exact ⟨t2, sg t2 a1, b1⟩
/-- the facts of a callee, by its name's class, its number of arguments, its depth under the caller's -/
def YF (Y : Mth) (n : Nat) : Prop := Cond.code Y.1 Y.2.1 Y.2.2.1 Y.2.2.2.1 ∈ TB ∧ Cond.initialized Y.1.cls ∈ TB ∧ (Y.1.cls ≠ "java/lang/invoke/MethodHandle" ∧ Y.1.cls ≠ "java/lang/invoke/VarHandle" ∧ (parseMethodDescriptor Y.1.desc).map (fun d => d.parameters.length) = some n) ∧ Y.2.2.1 ≤ 21
theorem V_cS {Y' : Mth} {n idx : Nat} {As : List Value} {r' : Option Value} {M' : Mem} {st0 : List Value} (hY : YF Y' n) (hd0 : Y'.2.2.2.2 < Y.2.2.2.2) (hC : Cn l g w Y' As M r' M') (hst : Cond.static Y'.1 ∈ TB) (hw : Cond.methodLink Y.1.cls idx Y'.1 ∈ TB) (hn : As.length = n) (h0 : st0 = As.reverse ++ st) (hrm : (st.map fun v => v.category).sum ≤ 8) (hd : decode Y.2.1 pc = .ok (.invokestatic idx, 3)) (kk : V l g w Y (pc + 3) L (r'.toList ++ st) M' r M2) : V l g w Y pc L st0 M r M2 := by
  intro p e s m args below meth c H locs ls hx hb hml hr hlk ho ht hE hP hS hl
  subst h0
  have hR : (rmD Y'.2.2.2.2).frames + 1 ≤ (rmD Y.2.2.2.2).frames ∧ 8 + (Y'.2.2.1 + 11) + (rmD Y'.2.2.2.2).locals ≤ (rmD Y.2.2.2.2).locals := by
    have := hY.2.2.2
    simp only [rmD]
    omega
  refine V_run (Y' := Y') (As := As) (va_runS (Ts := TB) (own := Y.1.cls) ⟨hx, hb, hml, ho, ht⟩ hC ⟨callB_of n ht (goodY hY.1) rfl rfl rfl (ht _ hY.2.1) (ht _ hw) hY.2.2.1 hR, ht _ hst⟩ ⟨Cn_blind, Cn_pre hE hP hS⟩ rfl hn hl.1 rfl (lv_room hrm) hd ⟨Nat.zero_le _, Nat.zero_le _⟩) hS (fun H1 locs1 hP1 hS1 => kk _ _ _ _ _ _ _ _ _ _ _ hx hb hml hr hlk ho ht hE hP1 hS1 hl)
theorem V_cSN {Y' : Mth} {n idx : Nat} {host : String} {As : List Value} {r' : Option Value} {M' : Mem} {st0 : List Value} (hY : YF Y' n) (hd0 : Y'.2.2.2.2 < Y.2.2.2.2) (hC : Cn l g w Y' As M r' M') (hst : Cond.static Y'.1 ∈ TB) (hw : (Y.1.cls, idx, Y'.1, host) ∈ nestW) (hn : As.length = n) (h0 : st0 = As.reverse ++ st) (hrm : (st.map fun v => v.category).sum ≤ 8) (hd : decode Y.2.1 pc = .ok (.invokestatic idx, 3)) (kk : V l g w Y (pc + 3) L (r'.toList ++ st) M' r M2) : V l g w Y pc L st0 M r M2 := by
  intro p e s m args below meth c H locs ls hx hb hml hr hlk ho ht hE hP hS hl
  subst h0
  have hR : (rmD Y'.2.2.2.2).frames + 1 ≤ (rmD Y.2.2.2.2).frames ∧ 8 + (Y'.2.2.1 + 11) + (rmD Y'.2.2.2.2).locals ≤ (rmD Y.2.2.2.2).locals := by
    have := hY.2.2.2
    simp only [rmD]
    omega
  refine V_run (Y' := Y') (As := As) (va_runSN (Ts := TB) (own := Y.1.cls) (host := host) ⟨hx, hb, hml, ho, ht⟩ hC ⟨va_cnB n ht (goodY hY.1) rfl rfl rfl (hE.1.2.1 _ hw) (ht _ hY.2.1) hY.2.2.1 hR, ht _ hst, trivial⟩ ⟨Cn_blind, Cn_pre hE hP hS⟩ rfl hn hl.1 rfl (lv_room hrm) hd ⟨Nat.zero_le _, Nat.zero_le _⟩) hS (fun H1 locs1 hP1 hS1 => kk _ _ _ _ _ _ _ _ _ _ _ hx hb hml hr hlk ho ht hE hP1 hS1 hl)
theorem V_cV {Y' : Mth} {n idx ci a N : Nat} {T : u_T} {ty : Nat → FieldType} {As : List Value} {r' : Option Value} {M' : Mem} {st0 : List Value} (hY : YF Y' n) (hc : CF ci Y'.1.cls T N ty) (h : w.2.1[a]? = some (1, ci)) (hd0 : Y'.2.2.2.2 < Y.2.2.2.2) (hC : Cn l g w Y' (.ref (w.1 + a) :: As) M r' M') (hin : Cond.instanceMethod Y'.1 ∈ TB) (hse : Cond.selects Y'.1.cls Y'.1 Y'.1 ∈ TB) (hw : Cond.methodLink Y.1.cls idx Y'.1 ∈ TB) (hn : As.length = n) (h0 : st0 = As.reverse ++ .ref (w.1 + a) :: st) (hrm : (st.map fun v => v.category).sum ≤ 8) (hd : decode Y.2.1 pc = .ok (.invokevirtual idx, 3)) (kk : V l g w Y (pc + 3) L (r'.toList ++ st) M' r M2) : V l g w Y pc L st0 M r M2 := by
  intro p e s m args below meth c H locs ls hx hb hml hr hlk ho ht hE hP hS hl
  subst h0
  have hR : (rmD Y'.2.2.2.2).frames + 1 ≤ (rmD Y.2.2.2.2).frames ∧ 8 + (Y'.2.2.1 + 11) + (rmD Y'.2.2.2.2).locals ≤ (rmD Y.2.2.2.2).locals := by
    have := hY.2.2.2
    simp only [rmD]
    omega
  refine V_run (Y' := Y') (As := As) (va_runV (Ts := TB) (own := Y.1.cls) (C := Y'.1.cls) ⟨hx, hb, hml, ho, ht⟩ hC ⟨callB_of n ht (goodY hY.1) rfl rfl rfl (ht _ hY.2.1) (ht _ hw) hY.2.2.1 hR, ht _ hin, ht _ hse⟩ ⟨Cn_blind, va_recv hE.1.1 hP (ci := ci) (q0 := a) hc.1 (wws_get h), Cn_pre hE hP hS⟩ rfl hn hl.1 rfl (lv_room hrm) hd ⟨Nat.zero_le _, Nat.zero_le _⟩) hS (fun H1 locs1 hP1 hS1 => kk _ _ _ _ _ _ _ _ _ _ _ hx hb hml hr hlk ho ht hE hP1 hS1 hl)
end VH
