/-! CONSTRUCTORS: a world that grows. Its cells lie one behind the other from b on; what a constructor does is worked out by a function (gx, grun), by the kernel; here is shown that the machine does it. -/
abbrev Sv : Type := Nat ⊕ Int32
abbrev Gc : Type := (Nat × List (Nat × Int32)) ⊕ ((Nat × List (Option Sv)) ⊕ (Nat × Nat × List (Nat × Nat)))
def svV (b : Nat) : Sv → Value
  | .inl i => .ref (b + i)
  | .inr v => .int v
def fvV (b : Nat) : Option Sv → Value
  | none => .null
  | some x => svV b x
def arF : List (Nat × Int32) → Nat → Int32
  | [] => fun _ => 0
  | q :: u => fun j => if j = q.1 then q.2 else arF u j
def arR (b : Nat) : List (Nat × Nat) → Nat → Option Nat
  | [] => fun _ => none
  | q :: u => fun j => if j = q.1 then some (b + q.2) else arR b u j
def gcell (g : Gam) (b : Nat) : Gc → va_E
  | .inl (n, u) => .inl (g.2.2.1, n, .inl (arF u))
  | .inr (.inl (ci, fs)) => .inr (ci, fs.map (fvV b))
  | .inr (.inr (e, n, u)) => .inl (g.2.2.2.1 e, n, .inr (.inr (.inr (.inr (arR b u)))))
def gws (g : Gam) (b : Nat) (cs : List Gc) : va_W := cs.mapIdx fun i c => (b + i, gcell g b c)
theorem gws_get {g : Gam} {b i : Nat} {cs : List Gc} {c : Gc} (h : cs[i]? = some c) : (gws g b cs)[i]? = some (b + i, gcell g b c) := by
  simp [gws, h]
theorem gws_len (g : Gam) (b : Nat) (cs : List Gc) : (gws g b cs).length = cs.length := by simp [gws]
theorem gws_inv {g : Gam} {b i : Nat} {cs : List Gc} {q : Nat × va_E} (h : (gws g b cs)[i]? = some q) : q.1 = b + i ∧ i < cs.length := by
  have hl : i < cs.length := by
    have := (List.getElem?_eq_some_iff.mp h).1
    rw [gws_len] at this
    exact this
  have h2 : cs[i]? = some cs[i] := List.getElem?_eq_getElem hl
  rw [gws_get h2] at h
  cases h
  exact ⟨rfl, hl⟩
theorem gws_push (g : Gam) (b : Nat) (cs : List Gc) (c : Gc) : gws g b (cs ++ [c]) = gws g b cs ++ [(b + cs.length, gcell g b c)] := by
  simp [gws, List.mapIdx_append]
theorem gws_set {g : Gam} {b i : Nat} {cs : List Gc} (c : Gc) : (gws g b cs).set i (b + i, gcell g b c) = gws g b (cs.set i c) := by
  apply List.ext_getElem?
  intro j
  by_cases h : i = j
  · subst h
    by_cases hl : i < cs.length
    · rw [gws_get (c := c) (by simp [hl])]
      simp [gws_len, hl]
    · rw [List.getElem?_eq_none (by rw [List.length_set, gws_len]; omega), List.getElem?_eq_none (by rw [gws_len, List.length_set]; omega)]
  · rw [List.getElem?_set_ne h]
    simp [gws, List.getElem?_set_ne h]
theorem gws_D {g : Gam} {b : Nat} {cs : List Gc} : va_D (fun q => b ≤ q) (gws g b cs) := by
  refine ⟨fun i j p q hi hj e => ?_, fun k q hk => ?_⟩
  · have h1 := (gws_inv hi).1
    have h2 := (gws_inv hj).1
    omega
  · have h1 := (gws_inv hk).1
    show b ≤ q.1
    omega
/-- what the tables say, at every state -/
def Evg (g : Gam) (U : State) : Prop := Evm g U ∧ ∀ C ∈ [RX2, RX8, RX6, RX7], va_AO C U
theorem Evg.warm {g : Gam} {s U : State} (hW : s.WarmedH U.vm) (h : Evg g s) : Evg g U := ⟨Evm.warm hW h.1, fun C hC => va_AO.moved hW.alike (h.2 C hC)⟩
theorem Evg.same {g : Gam} {s U : State} (hv : s.vm = U.vm) (h : Evg g s) : Evg g U := ⟨Evm.same hv h.1, fun C hC => va_AO.moved (by rw [hv]; exact Vm.Alike.refl _) (h.2 C hC)⟩
def rmG (d mc ms : Nat) : Room := { frames := d, cells := mc, slots := ms, locals := 40 * d }
def lvs (b : Nat) (L : List (Nat × Sv)) : List (Nat × Value) := L.map fun q => (q.1, svV b q.2)
def svs (b : Nat) (st : List Sv) : List Value := st.map (svV b)
def QG (g : Gam) (b : Nat) (cs2 : List Gc) : Array Value → State → Outcome → State → Prop := fun _ st o t => o = .returned none ∧ va_P (g.1, g.2.1) vwCl (gws g b cs2) t.heap ∧ va_F (fun q => b ≤ q) st t
/-- a constructor's contract -/
def CnG (l : Launch) (g : Gam) (b : Nat) (Y : Mth) (mc ms : Nat) (As : List Sv) (cs cs2 : List Gc) : Prop :=
  Met l Y.1 (mws Y) (rmG Y.2.2.2.2 mc ms) (va_Pc (svs b As) (fun U => va_P (g.1, g.2.1) vwCl (gws g b cs) U.heap ∧ U.heap.size = b + cs.length ∧ Evg g U)) (QG g b cs2) mc ms (fun q => b ≤ q)
/-- the walk -/
def U (l : Launch) (g : Gam) (b : Nat) (Y : Mth) (mc ms pc : Nat) (L : List (Nat × Sv)) (st : List Sv) (cs : List Gc) (k n : Nat) (cs2 : List Gc) : Prop :=
  ∀ (p : Program) (e : Env) (s : State) (m : MethodId) (args : Array Value) (below : List Frame) (meth : Method) (c : Code) (H : Heap) (locs : List Loc) (ls : Array Slot),
    p.tables.exec = Jvm.exec → c.code = Y.2.1 → c.maxLocals = Y.2.2.1 → meth.sig.returnType = none → meth.locks = false → meth.name = "<init>" → s.vm.findClass Y.1.cls = some m.cls → (∀ t ∈ TB, t.before args s = true) → Evg g s → s.heap.size + k = b + cs.length → b ≤ s.heap.size →
    va_P (g.1, g.2.1) vwCl (gws g b cs) H → va_S (fun q => b ≤ q) s.heap H locs → lv_has ls Y.2.2.1 (lvs b L) →
    W p l e (rmG Y.2.2.2.2 mc ms) s m args below meth c H locs k n (MQ below (QG g b cs2) args s mc ms (fun q => b ≤ q)) (F0 m pc ls (svs b st))
theorem CnG_of {l : Launch} {g : Gam} {b : Nat} {Y : Mth} {mc ms : Nat} {As : List Sv} {cs cs2 : List Gc} (hy : plainName Y.1.cls = true) (hi : Y.1.name = "<init>") (hret : Y.2.2.2.1 = none) (L : List (Nat × Sv)) (hL : lv_args 0 (svs b As) = lvs b L) (hn : (lg_sl (svs b As)).length ≤ Y.2.2.1) (k : U l g b Y mc ms 0 L [] cs 0 0 cs2) : CnG l g b Y mc ms As cs cs2 := by
  refine Met.ofW (cc := Y.2.1) (maxL := Y.2.2.1) (ret := Y.2.2.2.1) (ws' := TB) hy rfl ?_
  intro p e s m args below meth c s₁ B hml hv
  obtain ⟨rfl, hP, hz, hE⟩ := hv
  have hts := atoms_spec (ws := mws Y) B.pre
  have hl := lv_entry (svs b As) (n := Y.2.2.1) hn
  rw [lg_entry_eq]
  rw [hL] at hl
  exact k _ _ _ _ _ _ _ _ _ _ _ B.exec B.bytes hml (B.returns.trans hret) B.notSynchronized ((name_of_methodNamed B.named B.method).1.trans hi) (findClass_of_methodNamed B.named) (fun t h => hts t (List.mem_cons_of_mem _ h)) hE (by rw [hz]; rfl) (by omega) hP va_S.rf hl
section UR
variable {l : Launch} {g : Gam} {b : Nat} {Y : Mth} {mc ms pc : Nat} {L : List (Nat × Sv)} {st : List Sv} {cs : List Gc} {k n : Nat} {cs2 : List Gc}
theorem lvs_get {x : Nat} {v : Sv} (h : (x, v) ∈ L) : ∃ q : Nat, (lvs b L)[q]? = some (x, svV b v) := by
  obtain ⟨q, hq⟩ := List.getElem?_of_mem h
  exact ⟨q, by simp [lvs, hq]⟩
theorem lvs_put (x : Nat) (v : Sv) : (x, svV b v) :: (lvs b L).filter (fun q => !(q.1 == x) && !(q.1 + 1 == x && q.2.category == 2)) = lvs b ((x, v) :: L.filter (fun q => !(q.1 == x))) := by
  have hc : ∀ v : Sv, ((svV b v).category == 2) = false := fun v => by cases v <;> rfl
  unfold lvs
  rw [List.map_cons, List.filter_map]
  congr 2
  apply List.filter_congr
  intro q _
  simp [hc]
theorem U_aload {x i : Nat} (n4 : Fin 4) (hx4 : (n4 : Nat) = x) (h : (x, Sum.inl i) ∈ L) (hd : decode Y.2.1 pc = .ok (.aload_n n4, 1)) (kk : U l g b Y mc ms (pc + 1) L (.inl i :: st) cs k n cs2) : U l g b Y mc ms pc L st cs k n cs2 := by
  intro p e s m args below meth c H locs ls hx hb hml hr hlk hnm ho ht hE hz hbs hP hS hl
  obtain ⟨q, hq⟩ := lvs_get (b := b) h
  subst hx4
  exact lv_aload_n hx hb hd rfl (lv_at hl q hq) (kk _ _ _ _ _ _ _ _ _ _ _ hx hb hml hr hlk hnm ho ht hE hz hbs hP hS hl)
theorem U_iload {x : Nat} {v : Int32} (n4 : Fin 4) (hx4 : (n4 : Nat) = x) (h : (x, Sum.inr v) ∈ L) (hd : decode Y.2.1 pc = .ok (.iload_n n4, 1)) (kk : U l g b Y mc ms (pc + 1) L (.inr v :: st) cs k n cs2) : U l g b Y mc ms pc L st cs k n cs2 := by
  intro p e s m args below meth c H locs ls hx hb hml hr hlk hnm ho ht hE hz hbs hP hS hl
  obtain ⟨q, hq⟩ := lvs_get (b := b) h
  subst hx4
  exact lv_iload_n hx hb hd rfl (lv_at hl q hq) (kk _ _ _ _ _ _ _ _ _ _ _ hx hb hml hr hlk hnm ho ht hE hz hbs hP hS hl)
theorem U_astore {x i : Nat} (n4 : Fin 4) (hx4 : (n4 : Nat) = x) (hm : x < Y.2.2.1) (hd : decode Y.2.1 pc = .ok (.astore_n n4, 1)) (kk : U l g b Y mc ms (pc + 1) ((x, .inl i) :: L.filter (fun q => !(q.1 == x))) st cs k n cs2) : U l g b Y mc ms pc L (.inl i :: st) cs k n cs2 := by
  intro p e s m args below meth c H locs ls hx hb hml hr hlk hnm ho ht hE hz hbs hP hS hl
  subst hx4
  exact lv_astore_n hx hb hd rfl hl hm (lvs_put (n4 : Nat) (.inl i)) (fun ls hl => kk _ _ _ _ _ _ _ _ _ _ _ hx hb hml hr hlk hnm ho ht hE hz hbs hP hS hl)
theorem U_istore {x : Nat} {v : Int32} (n4 : Fin 4) (hx4 : (n4 : Nat) = x) (hm : x < Y.2.2.1) (hd : decode Y.2.1 pc = .ok (.istore_n n4, 1)) (kk : U l g b Y mc ms (pc + 1) ((x, .inr v) :: L.filter (fun q => !(q.1 == x))) st cs k n cs2) : U l g b Y mc ms pc L (.inr v :: st) cs k n cs2 := by
  intro p e s m args below meth c H locs ls hx hb hml hr hlk hnm ho ht hE hz hbs hP hS hl
  subst hx4
  exact lv_istore_n hx hb hd rfl hl hm (lvs_put (n4 : Nat) (.inr v)) (fun ls hl => kk _ _ _ _ _ _ _ _ _ _ _ hx hb hml hr hlk hnm ho ht hE hz hbs hP hS hl)
theorem U_iinc {x : Nat} {d : Int} {v w : Int32} (h : (x, Sum.inr v) ∈ L) (hw : v + Int32.ofInt d = w) (hm : x < Y.2.2.1) (hd : decode Y.2.1 pc = .ok (.iinc x d, 3)) (kk : U l g b Y mc ms (pc + 3) ((x, .inr w) :: L.filter (fun q => !(q.1 == x))) st cs k n cs2) : U l g b Y mc ms pc L st cs k n cs2 := by
  intro p e s m args below meth c H locs ls hx hb hml hr hlk hnm ho ht hE hz hbs hP hS hl
  obtain ⟨q, hq⟩ := lvs_get (b := b) h
  exact lv_iinc hx hb hd hl hq hw hm (lvs_put x (.inr w)) (fun ls hl => kk _ _ _ _ _ _ _ _ _ _ _ hx hb hml hr hlk hnm ho ht hE hz hbs hP hS hl)
theorem U_iconst {d : Int} {v : Int32} (hv : Int32.ofInt d = v) (hd : decode Y.2.1 pc = .ok (.iconst d, 1)) (kk : U l g b Y mc ms (pc + 1) L (.inr v :: st) cs k n cs2) : U l g b Y mc ms pc L st cs k n cs2 := by
  intro p e s m args below meth c H locs ls hx hb hml hr hlk hnm ho ht hE hz hbs hP hS hl
  exact lv_iconst hx hb hd hv (kk _ _ _ _ _ _ _ _ _ _ _ hx hb hml hr hlk hnm ho ht hE hz hbs hP hS hl)
theorem U_bipush {d : Int} {v : Int32} (hv : (Int8.ofInt d).toInt32 = v) (hd : decode Y.2.1 pc = .ok (.bipush d, 2)) (kk : U l g b Y mc ms (pc + 2) L (.inr v :: st) cs k n cs2) : U l g b Y mc ms pc L st cs k n cs2 := by
  intro p e s m args below meth c H locs ls hx hb hml hr hlk hnm ho ht hE hz hbs hP hS hl
  exact lv_bipush hx hb hd hv (kk _ _ _ _ _ _ _ _ _ _ _ hx hb hml hr hlk hnm ho ht hE hz hbs hP hS hl)
theorem U_sipush {d : Int} {v : Int32} (hv : (Int16.ofInt d).toInt32 = v) (hd : decode Y.2.1 pc = .ok (.sipush d, 3)) (kk : U l g b Y mc ms (pc + 3) L (.inr v :: st) cs k n cs2) : U l g b Y mc ms pc L st cs k n cs2 := by
  intro p e s m args below meth c H locs ls hx hb hml hr hlk hnm ho ht hE hz hbs hP hS hl
  exact lv_sipush hx hb hd hv (kk _ _ _ _ _ _ _ _ _ _ _ hx hb hml hr hlk hnm ho ht hE hz hbs hP hS hl)
theorem U_ldc {idx : Nat} {v : Int32} (hw : Cond.constant Y.1.cls idx v ∈ TB) (hd : decode Y.2.1 pc = .ok (.ldc idx, 2)) (kk : U l g b Y mc ms (pc + 2) L (.inr v :: st) cs k n cs2) : U l g b Y mc ms pc L st cs k n cs2 := by
  intro p e s m args below meth c H locs ls hx hb hml hr hlk hnm ho ht hE hz hbs hP hS hl
  exact lv_ldc hx hb ho (ht _ hw) hd (kk _ _ _ _ _ _ _ _ _ _ _ hx hb hml hr hlk hnm ho ht hE hz hbs hP hS hl)
theorem U_dup {v : Sv} (hd : decode Y.2.1 pc = .ok (.dup, 1)) (kk : U l g b Y mc ms (pc + 1) L (v :: v :: st) cs k n cs2) : U l g b Y mc ms pc L (v :: st) cs k n cs2 := by
  intro p e s m args below meth c H locs ls hx hb hml hr hlk hnm ho ht hE hz hbs hP hS hl
  exact lv_dup hx hb hd (by cases v <;> rfl) (kk _ _ _ _ _ _ _ _ _ _ _ hx hb hml hr hlk hnm ho ht hE hz hbs hP hS hl)
theorem U_iadd {x y : Int32} (hd : decode Y.2.1 pc = .ok (.iadd, 1)) (kk : U l g b Y mc ms (pc + 1) L (.inr (x + y) :: st) cs k n cs2) : U l g b Y mc ms pc L (.inr y :: .inr x :: st) cs k n cs2 := by
  intro p e s m args below meth c H locs ls hx hb hml hr hlk hnm ho ht hE hz hbs hP hS hl
  exact lv_iadd hx hb hd (kk _ _ _ _ _ _ _ _ _ _ _ hx hb hml hr hlk hnm ho ht hE hz hbs hP hS hl)
theorem U_goto {off : Int} {tgt : Nat} (htg : (pc : Int) + off = (tgt : Int)) (hd : decode Y.2.1 pc = .ok (.goto off, 3)) (kk : U l g b Y mc ms tgt L st cs k n cs2) : U l g b Y mc ms pc L st cs k n cs2 := by
  intro p e s m args below meth c H locs ls hx hb hml hr hlk hnm ho ht hE hz hbs hP hS hl
  exact lv_goto hx hb hd htg (kk _ _ _ _ _ _ _ _ _ _ _ hx hb hml hr hlk hnm ho ht hE hz hbs hP hS hl)
theorem U_icmp {x y : Int32} {off : Int} {tgt : Nat} (htg : (pc : Int) + off = (tgt : Int)) (hd : decode Y.2.1 pc = .ok (.if_icmp .ge off, 3)) (kt : y ≤ x → U l g b Y mc ms tgt L st cs k n cs2) (kf : ¬ y ≤ x → U l g b Y mc ms (pc + 3) L st cs k n cs2) : U l g b Y mc ms pc L (.inr y :: .inr x :: st) cs k n cs2 := by
  intro p e s m args below meth c H locs ls hx hb hml hr hlk hnm ho ht hE hz hbs hP hS hl
  exact lv_icmp_ge hx hb hd htg (fun q => kt q _ _ _ _ _ _ _ _ _ _ _ hx hb hml hr hlk hnm ho ht hE hz hbs hP hS hl) (fun q => kf q _ _ _ _ _ _ _ _ _ _ _ hx hb hml hr hlk hnm ho ht hE hz hbs hP hS hl)
/-- the new cell lies behind the others -/
theorem gnew {p : Program} {e : Env} {R : Room} {s : State} {m : MethodId} {args : Array Value} {below : List Frame} {meth : Method} {c : Code} {T : State} {locs : List Loc} {k1 n1 : Nat} {q : Nat} {x : va_E} (X : Stand p l e R s m args below meth c T locs k1 n1) (hz : s.heap.size + k1 = b + cs.length + 1) (hP : va_P (g.1, g.2.1) vwCl (gws g b cs ++ [(q, x)]) T.heap) (hD : va_D (fun q => b ≤ q) (gws g b cs ++ [(q, x)])) : q = b + cs.length := by
  have hl : (gws g b cs ++ [(q, x)])[cs.length]? = some (q, x) := by
    rw [List.getElem?_append_right (by rw [gws_len]; exact Nat.le_refl _), gws_len, Nat.sub_self]
    rfl
  have h1 : q < T.heap.size := (hP _ _ hl).lt
  have h2 : T.heap.size ≤ s.heap.size + k1 := X.same.2.2.1
  have h3 : b ≤ q := hD.2 _ _ hl
  by_cases h4 : q < b + cs.length
  · have hi : q - b < cs.length := by omega
    have h5 := gws_get (g := g) (b := b) (List.getElem?_eq_getElem hi)
    have h6 : (gws g b cs ++ [(q, x)])[q - b]? = some (b + (q - b), gcell g b cs[q - b]) := by
      rw [List.getElem?_append_left (by rw [gws_len]; exact hi)]
      exact h5
    have := hD.1 _ _ _ _ h6 hl (by show b + (q - b) = q; omega)
    omega
  · omega
theorem U_new {ci idx N : Nat} {C : String} {T : u_T} {ty : Nat → FieldType} {fs : List (Option Sv)} (hc : CF ci C T N ty) (hw : Cond.classLink Y.1.cls idx C ∈ TB ∧ Cond.instantiable C N ∈ TB ∧ Cond.initialized C ∈ TB) (hfs : ∀ j, j < N → defaultValue (ty j) = vp_V (fs.map (fvV b)) j) (hk : k + 1 ≤ mc ∧ n + N ≤ ms) (hd : decode Y.2.1 pc = .ok (.new idx, 3)) (kk : U l g b Y mc ms (pc + 3) L (.inl cs.length :: st) (cs ++ [.inr (.inl (ci, fs))]) (k + 1) (n + N) cs2) : U l g b Y mc ms pc L st cs k n cs2 := by
  intro p e s m args below meth c H locs ls hx hb hml hr hlk hnm ho ht hE hz hbs hP hS hl
  refine va_new (ci := ci) (fs := fs.map (fvV b)) (C := C) (T := T) (N := N) hx hb ht hc.2.2.1 ty hc.2.2.2.1 ho (ht _ hw.1) (ht _ hw.2.1) (ht _ hw.2.2) hE.1.1 hP gws_D hS (fun q hq => Nat.le_trans hbs hq) hc.1 hfs hk.1 hk.2 hd (fun q H1 hP1 hD1 hS1 => ?_)
  intro T1 hT1 X
  have hq : q = b + cs.length := gnew X (by omega) (by rw [hT1]; exact hP1) hD1
  subst hq
  have hP1 : va_P (g.1, g.2.1) vwCl (gws g b (cs ++ [.inr (.inl (ci, fs))])) H1 := by rw [gws_push]; exact hP1
  exact kk _ _ _ _ _ _ _ _ _ _ _ hx hb hml hr hlk hnm ho ht hE (by rw [List.length_append]; show s.heap.size + (k + 1) = b + (cs.length + 1); omega) hbs hP1 hS1 hl T1 hT1 X
theorem U_newa {w : Int32} {N : Nat} (hn : ¬ w < 0) (hN : w.toNatClampNeg = N) (hb4 : N ≤ 100000) (hw : Cond.arrayClass .int ∈ TB) (hk : k + 1 ≤ mc ∧ n + N ≤ ms) (hd : decode Y.2.1 pc = .ok (.newarray .int, 2)) (kk : U l g b Y mc ms (pc + 2) L (.inl cs.length :: st) (cs ++ [.inl (N, [])]) (k + 1) (n + N) cs2) : U l g b Y mc ms pc L (.inr w :: st) cs k n cs2 := by
  intro p e s m args below meth c H locs ls hx hb hml hr hlk hnm ho ht hE hz hbs hP hS hl
  refine va_newa (atype := .int) (ty := .int) (a0 := (N, .inl (fun _ => 0))) hx hb (ht _ hw) rfl hE.1.1 hP gws_D hS (fun q hq => Nat.le_trans hbs hq) (fun cA => by rw [vp_cell_i]; rfl) hn hN (by show N * 4 ≤ 536870912; omega) hk.1 hk.2 hd (fun q cA H1 hK1 hP1 hD1 hS1 => ?_)
  intro T1 hT1 X
  have hq : q = b + cs.length := gnew X (by omega) (by rw [hT1]; exact hP1) hD1
  subst hq
  have h1 : va_RA s cA .int := (hK1.2 (gtys g).length (cA, .int) (by simp)).2
  have h2 : va_RA s g.2.2.1 .int := (hE.1.1.2 0 (g.2.2.1, .int) rfl).2
  have hcA : cA = g.2.2.1 := Option.some.inj (Eq.trans (Eq.symm h1) h2)
  subst hcA
  have hP1 : va_P (g.1, g.2.1) vwCl (gws g b (cs ++ [.inl (N, [])])) H1 := by rw [gws_push]; exact hP1
  exact kk _ _ _ _ _ _ _ _ _ _ _ hx hb hml hr hlk hnm ho ht hE (by rw [List.length_append]; show s.heap.size + (k + 1) = b + (cs.length + 1); omega) hbs hP1 hS1 hl T1 hT1 X
theorem U_anew {w : Int32} {N ec idx : Nat} {C : String} (t0 : Nat) (ht0 : (gtys g)[t0]? = some (g.2.2.2.1 ec, .object C)) (hC : C ∈ [RX2, RX8, RX6, RX7]) (hn : ¬ w < 0) (hN : w.toNatClampNeg = N) (hb4 : N ≤ 100000) (hw : Cond.classLink Y.1.cls idx C ∈ TB) (hk : k + 1 ≤ mc ∧ n + N ≤ ms) (hd : decode Y.2.1 pc = .ok (.anewarray idx, 3)) (kk : U l g b Y mc ms (pc + 3) L (.inl cs.length :: st) (cs ++ [.inr (.inr (ec, N, []))]) (k + 1) (n + N) cs2) : U l g b Y mc ms pc L (.inr w :: st) cs k n cs2 := by
  intro p e s m args below meth c H locs ls hx hb hml hr hlk hnm ho ht hE hz hbs hP hS hl
  refine va_newq (C := C) hx hb ho (ht _ hw) (hE.2 C hC) hE.1.1 hP gws_D hS (fun q hq => Nat.le_trans hbs hq) hn hN (by omega) hk.1 hk.2 hd (fun q cA H1 hK1 hP1 hD1 hS1 => ?_)
  intro T1 hT1 X
  have hq : q = b + cs.length := gnew X (by omega) (by rw [hT1]; exact hP1) hD1
  subst hq
  obtain ⟨_, _, _, _, _, h1⟩ : va_RA s cA (.object C) := (hK1.2 (gtys g).length (cA, .object C) (by simp)).2
  obtain ⟨_, _, _, _, _, h2⟩ : va_RA s (g.2.2.2.1 ec) (.object C) := (hE.1.1.2 t0 _ ht0).2
  have hcA : cA = g.2.2.2.1 ec := Option.some.inj (Eq.trans (Eq.symm h1) h2)
  subst hcA
  have hP1 : va_P (g.1, g.2.1) vwCl (gws g b (cs ++ [.inr (.inr (ec, N, []))])) H1 := by rw [gws_push]; exact hP1
  exact kk _ _ _ _ _ _ _ _ _ _ _ hx hb hml hr hlk hnm ho ht hE (by rw [List.length_append]; show s.heap.size + (k + 1) = b + (cs.length + 1); omega) hbs hP1 hS1 hl T1 hT1 X
theorem U_put {ci i idx N f : Nat} {C : String} {T : u_T} {ty : Nat → FieldType} {fs : List (Option Sv)} {v : Sv} (hc : CF ci C T N ty) (h : cs[i]? = some (.inr (.inl (ci, fs)))) (hf : f < N) (hfl : f < fs.length) (hfin : (T f).2.2.2 = false ∨ ((T f).2.2.2 = true ∧ (T f).1 = Y.1.cls)) (hn : narrow (ty f) (svV b v) = svV b v) (hfit : fits (ty f) (svV b v) = true) (hw : Cond.fieldLink Y.1.cls idx (T f).1 (T f).2.1 (T f).2.2.1 ∈ TB) (hd : decode Y.2.1 pc = .ok (.putfield idx, 3)) (kk : U l g b Y mc ms (pc + 3) L st (cs.set i (.inr (.inl (ci, fs.set f (some v))))) k n cs2) : U l g b Y mc ms pc L (v :: .inl i :: st) cs k n cs2 := by
  intro p e s m args below meth c H locs ls hx hb hml hr hlk hnm ho ht hE hz hbs hP hS hl
  have e1 : (fs.map (fvV b)).set f (svV b v) = (fs.set f (some v)).map (fvV b) := by rw [List.map_set]; rfl
  have go : ∀ (H1 : Heap) (locs1 : List Loc), va_P (g.1, g.2.1) vwCl ((gws g b cs).set i (b + i, .inr (ci, (fs.map (fvV b)).set f (svV b v)))) H1 → va_D (fun q => b ≤ q) ((gws g b cs).set i (b + i, .inr (ci, (fs.map (fvV b)).set f (svV b v)))) → va_S (fun q => b ≤ q) s.heap H1 locs1 → W p l e (rmG Y.2.2.2.2 mc ms) s m args below meth c H1 locs1 k n (MQ below (QG g b cs2) args s mc ms (fun q => b ≤ q)) (F0 m (pc + 3) ls (svs b st)) := by
    intro H1 locs1 hP1 _ hS1
    have e2 := gws_set (g := g) (b := b) (i := i) (cs := cs) (.inr (.inl (ci, fs.set f (some v))))
    rw [e1] at hP1
    have hP1 : va_P (g.1, g.2.1) vwCl (gws g b (cs.set i (.inr (.inl (ci, fs.set f (some v)))))) H1 := by rw [← e2]; exact hP1
    exact kk _ _ _ _ _ _ _ _ _ _ _ hx hb hml hr hlk hnm ho ht hE (by rw [List.length_set]; exact hz) hbs hP1 hS1 hl
  rcases hfin with hfin | ⟨hfin, hown⟩
  · exact va_put (ci := ci) (fs := fs.map (fvV b)) (v := svV b v) (ty := ty f) hx hb ht hc.2.2.1 ty hc.2.2.2.1 hc.2.2.2.2 ho hE.1.1 hP gws_D hS i (gws_get h) hc.1 f hf (ht _ hw) (fun x hx => hx) hfin (hc.2.2.2.1 f hf) hn hfit (by rw [List.length_map]; exact hfl) hd go
  · exact va_putF (ci := ci) (fs := fs.map (fvV b)) (v := svV b v) (ty := ty f) hx hb ht hc.2.2.1 ty hc.2.2.2.1 hc.2.2.2.2 ho hE.1.1 hP gws_D hS i (gws_get h) hc.1 f hf (ht _ hw) (fun x hx => hx) hfin hnm hown (hc.2.2.2.1 f hf) hn hfit (by rw [List.length_map]; exact hfl) hd go
theorem U_get {ci i idx N f j : Nat} {C : String} {T : u_T} {ty : Nat → FieldType} {fs : List (Option Sv)} (hc : CF ci C T N ty) (h : cs[i]? = some (.inr (.inl (ci, fs)))) (hf : f < N) (hj : fs[f]? = some (some (.inl j))) (hw : Cond.fieldLink Y.1.cls idx (T f).1 (T f).2.1 (T f).2.2.1 ∈ TB) (hd : decode Y.2.1 pc = .ok (.getfield idx, 3)) (kk : U l g b Y mc ms (pc + 3) L (.inl j :: st) cs k n cs2) : U l g b Y mc ms pc L (.inl i :: st) cs k n cs2 := by
  intro p e s m args below meth c H locs ls hx hb hml hr hlk hnm ho ht hE hz hbs hP hS hl
  exact va_get (ci := ci) (fs := fs.map (fvV b)) (v := .ref (b + j)) hx hb ht hc.2.2.1 ho hE.1.1 hP i (gws_get h) hc.1 f hf (ht _ hw) (fun x hx => hx) (by rw [List.getElem?_map, hj]; rfl) hd (kk _ _ _ _ _ _ _ _ _ _ _ hx hb hml hr hlk hnm ho ht hE hz hbs hP hS hl)
theorem U_iast {i N j : Nat} {u : List (Nat × Int32)} {v w : Int32} (h : cs[i]? = some (.inl (N, u))) (hi : ixb w N = true) (hj : ix w = j) (hd : decode Y.2.1 pc = .ok (.iastore, 1)) (kk : U l g b Y mc ms (pc + 1) L st (cs.set i (.inl (N, (j, v) :: u))) k n cs2) : U l g b Y mc ms pc L (.inr v :: .inr w :: .inl i :: st) cs k n cs2 := by
  intro p e s m args below meth c H locs ls hx hb hml hr hlk hnm ho ht hE hz hbs hP hS hl
  subst hj
  refine va_iast (tys := gtys g) hx hb hE.1.1 hP gws_D hS i 0 (gws_get h) rfl (ixb_in hi) hd (fun H1 locs1 hP1 _ hS1 => ?_)
  have e2 := gws_set (g := g) (b := b) (i := i) (cs := cs) (.inl (N, (ix w, v) :: u))
  have e3 : arF ((ix w, v) :: u) = upd (arF u) w.toNatClampNeg v := by
    funext x
    show (if x = ix w then v else arF u x) = _
    unfold upd ix
    rfl
  have hP1 : va_P (g.1, g.2.1) vwCl (gws g b (cs.set i (.inl (N, (ix w, v) :: u)))) H1 := by
    rw [← e2]
    show va_P (g.1, g.2.1) vwCl ((gws g b cs).set i (b + i, .inl (g.2.2.1, N, .inl (arF ((ix w, v) :: u))))) H1
    rw [e3]
    exact hP1
  exact kk _ _ _ _ _ _ _ _ _ _ _ hx hb hml hr hlk hnm ho ht hE (by rw [List.length_set]; exact hz) hbs hP1 hS1 hl
theorem U_aast {i N j x ec Nf : Nat} {C : String} {T : u_T} {ty : Nat → FieldType} {u : List (Nat × Nat)} {w : Int32} {fs : List (Option Sv)} (t0 : Nat) (ht0 : (gtys g)[t0]? = some (g.2.2.2.1 ec, .object C)) (hc : CF ec C T Nf ty) (h : cs[i]? = some (.inr (.inr (ec, N, u)))) (hv : cs[x]? = some (.inr (.inl (ec, fs)))) (hi : ixb w N = true) (hj : ix w = j) (hd : decode Y.2.1 pc = .ok (.aastore, 1)) (kk : U l g b Y mc ms (pc + 1) L st (cs.set i (.inr (.inr (ec, N, (j, x) :: u)))) k n cs2) : U l g b Y mc ms pc L (.inl x :: .inr w :: .inl i :: st) cs k n cs2 := by
  intro p e s m args below meth c H locs ls hx hb hml hr hlk hnm ho ht hE hz hbs hP hS hl
  subst hj
  refine va_astq (tys := gtys g) (r := (C, T, Nf)) hx hb hE.1.1 hP gws_D hS i t0 x ec (gws_get h) ht0 (gws_get hv) hc.1 (ixb_in hi) hd (fun H1 locs1 hP1 _ hS1 => ?_)
  have e2 := gws_set (g := g) (b := b) (i := i) (cs := cs) (.inr (.inr (ec, N, (ix w, x) :: u)))
  have e3 : arR b ((ix w, x) :: u) = va_up (arR b u) w.toNatClampNeg (some (b + x)) := by
    funext y
    show (if y = ix w then some (b + x) else arR b u y) = _
    unfold va_up ix
    rfl
  have hP1 : va_P (g.1, g.2.1) vwCl (gws g b (cs.set i (.inr (.inr (ec, N, (ix w, x) :: u))))) H1 := by
    rw [← e2]
    show va_P (g.1, g.2.1) vwCl ((gws g b cs).set i (b + i, .inl (g.2.2.2.1 ec, N, .inr (.inr (.inr (.inr (arR b ((ix w, x) :: u)))))))) H1
    rw [e3]
    exact hP1
  exact kk _ _ _ _ _ _ _ _ _ _ _ hx hb hml hr hlk hnm ho ht hE (by rw [List.length_set]; exact hz) hbs hP1 hS1 hl
theorem U_obj {i idx : Nat} (h1 : 1 ≤ Y.2.2.2.2) (hs8 : st.length ≤ 8) (hw : Cond.methodLink Y.1.cls idx Lib.objectInit ∈ TB ∧ Cond.instanceMethod Lib.objectInit ∈ TB ∧ Cond.code Lib.objectInit ⟨#[0xb1]⟩ 1 none ∈ TB) (hd : decode Y.2.1 pc = .ok (.invokespecial idx, 3)) (kk : U l g b Y mc ms (pc + 3) L st cs k n cs2) : U l g b Y mc ms pc L (.inl i :: st) cs k n cs2 := by
  intro p e s m args below meth c H locs ls hx hb hml hr hlk hnm ho ht hE hz hbs hP hS hl
  have hsum : ∀ st : List Sv, ((svs b st).map fun v => v.category).sum = st.length := by
    intro st
    induction st with
    | nil => rfl
    | cons a st ih =>
      show (svV b a).category + ((svs b st).map fun v => v.category).sum = st.length + 1
      rw [ih]
      cases a <;> (show 1 + _ = _; omega)
  exact W.objInit hx hb ho (ht _ hw.1) (ht _ hw.2.1) (ht _ hw.2.2) rfl (by rw [hml]; exact hl.1) (rest := svs b st) rfl hd h1 (by show 2 * 0 + ((svs b st).map fun v => v.category).sum + 12 ≤ 40 * Y.2.2.2.2; rw [hsum]; omega) (kk _ _ _ _ _ _ _ _ _ _ _ hx hb hml hr hlk hnm ho ht hE hz hbs hP hS hl)
theorem U_ret (hd : decode Y.2.1 pc = .ok (.return_, 1)) : U l g b Y k n pc L [] cs k n cs := by
  intro p e s m args below meth c H locs ls hx hb hml hr hlk hnm ho ht hE hz hbs hP hS hl
  exact W.vret hx hb hr (fun t h _ => ⟨rfl, by rw [h]; exact hP, hS.F h⟩) hS.2.2 hd hlk
theorem svs_sum (st : List Sv) : ((svs b st).map fun v => v.category).sum = st.length := by
  induction st with
  | nil => rfl
  | cons a st ih =>
    show (svV b a).category + ((svs b st).map fun v => v.category).sum = st.length + 1
    rw [ih]
    cases a <;> (show 1 + _ = _; omega)
/-- behind a call -/
theorem U_run {kc nc : Nat} {cs' : List Gc} {p : Program} {e : Env} {s : State} {m : MethodId} {args : Array Value} {below : List Frame} {meth : Method} {c : Code} {H : Heap} {locs : List Loc} {ls : Array Slot} {st0 : List Value} {Q : State → Prop} {R : Room} {T : State} (hT : T.heap = H) (X : Stand p l e R s m args below meth c T locs k n)
    (hR : va_Run p l e R s m args below meth c H locs k n kc nc (F0 m pc ls st0) (svs b st) (fun st' o t => QG g b cs' #[] st' o t) (fun q => b ≤ q)) (hS : va_S (fun q => b ≤ q) s.heap H locs)
    (kk : ∀ (H1 : Heap) (locs1 : List Loc), va_P (g.1, g.2.1) vwCl (gws g b cs') H1 → va_S (fun q => b ≤ q) s.heap H1 locs1 → W p l e R s m args below meth c H1 locs1 (k + kc) (n + nc) Q (F0 m (pc + 3) ls (svs b st))) : ∃ t, Steps p.tables e below (T.setTop (F0 m pc ls st0)) t ∧ Q t := by
  obtain ⟨v, st₀, t, T', L', h0, X', hL, e1, e2, ⟨hv, hb, hz, hk⟩, sg⟩ := hR T hT X
  cases hv
  rw [h0] at hz hk
  obtain ⟨t2, a1, b1⟩ := kk T'.heap (locs ++ L') (by rw [e1]; exact hb)
    ⟨Nat.le_trans hS.1 (by rw [e1]; exact hz), fun q h1 h2 => by rw [e1, hk q (Nat.lt_of_lt_of_le h1 hS.1) h2]; exact hS.2.1 q h1 h2, fun q hq => by
      rcases List.mem_append.mp hq with h | h
      · exact hS.2.2 q h
      · exact hL q h⟩ T' rfl X'
  exact ⟨t2, sg t2 a1, b1⟩
theorem G_blind {As : List Value} : FrameBlind (va_Pc As (fun U => va_P (g.1, g.2.1) vwCl (gws g b cs) U.heap ∧ U.heap.size = b + cs.length ∧ Evg g U)) := fun a U f mk q => ⟨q.1, q.2.1, q.2.2.1, Evg.same (s := U) rfl q.2.2.2⟩
theorem U_call {Y' : Mth} {nA idx i kc nc : Nat} {As st0 : List Sv} {cs' : List Gc} (hY : YF Y' nA) (hd0 : Y'.2.2.2.2 < Y.2.2.2.2) (hC : CnG l g b Y' kc nc (.inl i :: As) cs cs') (hi' : Y'.1.name = "<init>") (hret : Y'.2.2.2.1 = none) (hin : Cond.instanceMethod Y'.1 ∈ TB) (hw : Cond.methodLink Y.1.cls idx Y'.1 ∈ TB ∨ ∃ host, (Y.1.cls, idx, Y'.1, host) ∈ nestW) (hn : As.length = nA) (h0 : st0 = As.reverse ++ .inl i :: st) (hs8 : st.length ≤ 8) (hk : k + kc ≤ mc ∧ n + nc ≤ ms) (hi : i < cs.length) (hl' : cs'.length = cs.length + kc) (hd : decode Y.2.1 pc = .ok (.invokespecial idx, 3)) (kk : U l g b Y mc ms (pc + 3) L st cs' (k + kc) (n + nc) cs2) : U l g b Y mc ms pc L st0 cs k n cs2 := by
  intro p e s m args below meth c H locs ls hx hb hml hr hlk hnm ho ht hE hz hbs hP hS hl
  intro T hT X
  have hsz : H.size = b + cs.length := by
    have h1 : T.heap.size ≤ s.heap.size + k := X.same.2.2.1
    have h2 : cs.length - 1 < cs.length := by omega
    have h3 := (hP _ _ (gws_get (g := g) (b := b) (List.getElem?_eq_getElem h2))).lt
    have h3 : b + (cs.length - 1) < H.size := h3
    rw [hT] at h1
    omega
  have hR : (rmG Y'.2.2.2.2 kc nc).frames + 1 ≤ (rmG Y.2.2.2.2 mc ms).frames ∧ 8 + (Y'.2.2.1 + 11) + (rmG Y'.2.2.2.2 kc nc).locals ≤ (rmG Y.2.2.2.2 mc ms).locals := by
    have := hY.2.2.2
    simp only [rmG]
    omega
  have hws : mws Y' = Cond.code Y'.1 Y'.2.1 Y'.2.2.1 none :: TB := by unfold mws; rw [hret]
  have hst : svs b st0 = (svs b As).reverse ++ .ref (b + i) :: svs b st := by
    rw [h0]
    simp [svs, svV]
  have hpre : PreS s H (va_Pc (svs b (.inl i :: As)) (fun U => va_P (g.1, g.2.1) vwCl (gws g b cs) U.heap ∧ U.heap.size = b + cs.length ∧ Evg g U)) (.ref (b + i) :: svs b As) := ⟨G_blind, fun U hU hW => ⟨rfl, by rw [hU]; exact hP, by rw [hU]; exact hsz, Evg.warm hW hE⟩⟩
  have hln : (svs b As).length = nA := by rw [svs, List.length_map]; exact hn
  have go : va_Run p l e (rmG Y.2.2.2.2 mc ms) s m args below meth c H locs k n kc nc (F0 m pc ls (svs b st0)) (svs b st) (QG g b cs' (Value.ref (b + i) :: svs b As).toArray) (fun q => b ≤ q) := by
    rcases hw with hw | ⟨host, hw⟩
    · exact va_runI (Ts := TB) (own := Y.1.cls) ⟨hx, hb, hml, ho, ht⟩ hC ⟨callB_of nA ht (goodY hY.1) hws rfl rfl (ht _ hY.2.1) (ht _ hw) hY.2.2.1 hR, hi', ht _ hin⟩ hpre rfl hln hl.1 hst (lv_room (by rw [svs_sum]; exact hs8)) hd hk
    · exact va_runIN (Ts := TB) (own := Y.1.cls) (host := host) ⟨hx, hb, hml, ho, ht⟩ hC ⟨va_cnB nA ht (goodY hY.1) hws rfl rfl (hE.1.2.1 _ hw) (ht _ hY.2.1) hY.2.2.1 hR, hi', ht _ hin⟩ hpre rfl hln hl.1 hst (lv_room (by rw [svs_sum]; exact hs8)) hd hk
  exact U_run hT X go hS (fun H1 locs1 hP1 hS1 => kk _ _ _ _ _ _ _ _ _ _ _ hx hb hml hr hlk hnm ho ht hE (by rw [hl']; omega) hbs hP1 hS1 hl)
end UR
