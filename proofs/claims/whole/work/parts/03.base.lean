/-! MEMORY, WORLDS. A world: cells at b, b+1 ..; sh: what each is ((0, n): n ints; (1, ci): an object of class ci; (e + 2, n): n references to objects of class e); rf: where its references lead (relative to b); M: its ints. sh and rf stay; M changes. -/
abbrev Mem : Type := Nat → Nat → Int32
abbrev Shp : Type := List (Nat × Nat)
abbrev Rfs : Type := Nat → Nat → Nat
def mset (M : Mem) (a k : Nat) (v : Int32) : Mem := fun x j => if x = a ∧ j = k then v else M x j
def mcpy (M : Mem) (a sp t dp n : Nat) : Mem := fun x => if x = t then va_cpy (M a) (M t) sp dp n else M x
/-- the machine's own: the classes' numbers, the slots of their fields, int[]'s class, the classes of arrays of objects, where ABOVE is, where the String constants and their bytes are -/
abbrev Gam : Type := (Nat → ClassId) × (Nat → Nat → Nat) × ClassId × (Nat → ClassId) × Nat × (Nat → Nat) × (Nat → Nat)
/-- a world: where, its shape, its references -/
abbrev Wld : Type := Nat × Shp × Rfs
/-- a method: its name, its code, its locals, what it returns, its depth -/
abbrev Mth : Type := MethodName × ByteArray × Nat × Option FieldType × Nat
/-- what a field of a class leads to (none: an int) -/
def ftL : List (List (Option (Nat × Nat))) := [
  [some (4, 24), some (10, 14), some (0, 96), some (0, 15), some (0, 3), some (0, 20), some (0, 3), some (0, 3), some (0, 9), none, none, none, none],
  [none, none, none, none, none],
  [none, none, none, none, none, none, none],
  [none, none, some (0, 5), none, none, some (0, 25), some (0, 5)],
  [some (0, 96), none, none, none, none, none, none, none, none, none, none, none, some (0, 96)],
  [none, none, none, some (0, 24), some (0, 24), some (0, 9), some (0, 9), none],
  [none, none, some (0, 24)],
  [none, none, none, some (1, 6)],
  [none, none, none, none, some (0, 96)],
  [some (1, 4), some (1, 0), some (1, 0), some (1, 1), some (1, 3), some (1, 5), some (8, 4), some (9, 5), some (0, 25), some (0, 60), none, none],
  [some (0, 3300), some (0, 3300), some (0, 3300), none, some (0, 4), some (0, 4), some (0, 96), some (0, 5), some (0, 5), some (0, 5), some (0, 5), some (0, 120), some (0, 96), none, none, none, none, none, none, none, none, none, none, none, some (0, 128), some (0, 100), none, none, none, none, none, some (0, 25), none, none, some (0, 5), some (0, 5), none, none, some (0, 24), some (0, 24), some (0, 24), some (0, 625), none, none, some (0, 60), none, some (0, 60)]]
def ft (ci k : Nat) : Option (Nat × Nat) := (ftL.getD ci []).getD k none
def nf (ci : Nat) : Nat := (ftL.getD ci []).length
def wval (b : Nat) (rf : Rfs) (M : Mem) (a ci k : Nat) : Value := match ft ci k with
  | some _ => .ref (b + rf a k)
  | none => .int (M a k)
def wcell (g : Gam) (w : Wld) (M : Mem) (a : Nat) : Nat × Nat → va_E
  | (0, n) => .inl (g.2.2.1, n, .inl (M a))
  | (1, ci) => .inr (ci, (List.range (nf ci)).map (wval w.1 w.2.2 M a ci))
  | (e + 2, n) => .inl (g.2.2.2.1 e, n, .inr (.inr (.inr (.inr (fun i => some (w.1 + w.2.2 a i))))))
def wws (g : Gam) (w : Wld) (M : Mem) : va_W := (List.range w.2.1.length).map fun a => (w.1 + a, wcell g w M a (w.2.1.getD a (0, 0)))
def wA (w : Wld) : Nat → Prop := fun q => w.1 ≤ q ∧ q < w.1 + w.2.1.length
/-- the references lead to what the fields say -/
def WT (w : Wld) : Prop := (∀ a ci, w.2.1[a]? = some (1, ci) → ∀ k sp, ft ci k = some sp → w.2.1[w.2.2 a k]? = some sp) ∧ ∀ a e n, w.2.1[a]? = some (e + 2, n) → ∀ i, i < n → w.2.1[w.2.2 a i]? = some (1, e)
theorem wws_get {g : Gam} {w : Wld} {M : Mem} {a : Nat} {sp : Nat × Nat} (h : w.2.1[a]? = some sp) : (wws g w M)[a]? = some (w.1 + a, wcell g w M a sp) := by
  have hl : a < w.2.1.length := (List.getElem?_eq_some_iff.mp h).1
  have hd : w.2.1.getD a (0, 0) = sp := by rw [List.getD_eq_getElem?_getD, h]; rfl
  rw [wws, List.getElem?_map, List.getElem?_range hl]
  simp only [Option.map_some, hd]
theorem mset_self (M : Mem) (a k : Nat) (v : Int32) : mset M a k v a = upd (M a) k v := by
  funext j
  simp [mset, upd]
theorem mset_ne {M : Mem} {a k : Nat} {v : Int32} {x : Nat} (h : x ≠ a) : mset M a k v x = M x := by
  funext j
  simp [mset, h]
theorem wcell_ne {g : Gam} {w : Wld} {M N : Mem} {a : Nat} (h : M a = N a) (sp : Nat × Nat) : wcell g w M a sp = wcell g w N a sp := by
  match sp with
  | (0, n) => show Sum.inl _ = Sum.inl _; rw [h]
  | (1, ci) =>
    show Sum.inr _ = Sum.inr _
    have : wval w.1 w.2.2 M a ci = wval w.1 w.2.2 N a ci := by funext k; unfold wval; rw [h]
    rw [this]
  | (e + 2, n) => rfl
theorem wws_set {g : Gam} {w : Wld} {M N : Mem} {a : Nat} {sp : Nat × Nat} {c : va_E} (h : w.2.1[a]? = some sp) (hc : c = wcell g w N a sp) (hN : ∀ x, x ≠ a → N x = M x) : (wws g w M).set a (w.1 + a, c) = wws g w N := by
  apply List.ext_getElem?
  intro i
  by_cases hi : i = a
  · subst hi
    rw [wws_get h, hc]
    have hl : i < (wws g w M).length := (List.getElem?_eq_some_iff.mp (wws_get (g := g) (M := M) h)).1
    simp [hl]
  · rw [List.getElem?_set_ne (fun q => hi q.symm)]
    unfold wws
    rw [List.getElem?_map, List.getElem?_map]
    cases hx : (List.range w.2.1.length)[i]? with
    | none => rfl
    | some x =>
      have : x = i := by
        have := List.getElem?_eq_some_iff.mp hx
        obtain ⟨h1, h2⟩ := this
        rw [List.getElem_range] at h2
        exact h2.symm
      subst this
      simp only [Option.map_some]
      rw [wcell_ne (hN x hi).symm]
theorem wws_arr {g : Gam} {w : Wld} {M : Mem} {a n : Nat} (h : w.2.1[a]? = some (0, n)) (k : Nat) (v : Int32) : (wws g w M).set a (w.1 + a, .inl (g.2.2.1, n, .inl (upd (M a) k v))) = wws g w (mset M a k v) :=
  wws_set h (by show _ = Sum.inl _; rw [mset_self]) (fun x hx => mset_ne hx)
theorem wws_cpy {g : Gam} {w : Wld} {M : Mem} {a t n : Nat} (h : w.2.1[t]? = some (0, n)) (sp dp m : Nat) : (wws g w M).set t (w.1 + t, .inl (g.2.2.1, n, .inl (va_cpy (M a) (M t) sp dp m))) = wws g w (mcpy M a sp t dp m) :=
  wws_set h (by show _ = Sum.inl _; simp [mcpy]) (fun x hx => by simp [mcpy, hx])
theorem wws_obj {g : Gam} {w : Wld} {M : Mem} {a ci k : Nat} (h : w.2.1[a]? = some (1, ci)) (hf : ft ci k = none) (v : Int32) : (wws g w M).set a (w.1 + a, .inr (ci, ((List.range (nf ci)).map (wval w.1 w.2.2 M a ci)).set k (.int v))) = wws g w (mset M a k v) := by
  refine wws_set h ?_ (fun x hx => mset_ne hx)
  show Sum.inr _ = Sum.inr _
  refine congrArg Sum.inr (congrArg (Prod.mk ci) ?_)
  apply List.ext_getElem?
  intro i
  by_cases hi : i = k
  · subst hi
    by_cases hl : i < nf ci
    · simp [hl, wval, hf, mset]
    · simp [hl]
  · rw [List.getElem?_set_ne (fun q => hi q.symm)]
    simp only [List.getElem?_map]
    cases hx : (List.range (nf ci))[i]? with
    | none => rfl
    | some x =>
      have hxi : x = i := by
        obtain ⟨h1, h2⟩ := List.getElem?_eq_some_iff.mp hx
        rw [List.getElem_range] at h2
        exact h2.symm
      subst hxi
      simp [wval, mset, hi]
theorem wws_D {g : Gam} {w : Wld} {M : Mem} : va_D (wA w) (wws g w M) := by
  have key : ∀ (k : Nat) (q : Nat × va_E), (wws g w M)[k]? = some q → q.1 = w.1 + k ∧ k < w.2.1.length := by
    intro k q hq
    unfold wws at hq
    rw [List.getElem?_map] at hq
    cases hx : (List.range w.2.1.length)[k]? with
    | none => rw [hx] at hq; cases hq
    | some x =>
      rw [hx] at hq
      obtain ⟨h1, h2⟩ := List.getElem?_eq_some_iff.mp hx
      rw [List.getElem_range] at h2
      have h3 : k < w.2.1.length := by simpa using h1
      subst h2
      have := Option.some.inj hq
      rw [← this]
      exact ⟨rfl, h3⟩
  refine ⟨fun i j p q hi hj e => ?_, fun k q hk => ?_⟩
  · have h1 := (key i p hi).1
    have h2 := (key j q hj).1
    omega
  · have h1 := key k q hk
    unfold wA
    omega
def mws (Y : Mth) : List Cond := Cond.code Y.1 Y.2.1 Y.2.2.1 Y.2.2.2.1 :: TB
theorem goodY {Y : Mth} (h : Cond.code Y.1 Y.2.1 Y.2.2.1 Y.2.2.2.1 ∈ TB) : GoodIn TB (mws Y) := by
  intro w hw
  rcases List.mem_cons.mp hw with rfl | hw
  · exact ⟨h, good_of_word (List.mem_filter.mp h).2⟩
  · exact ⟨hw, good_of_word (List.mem_filter.mp hw).2⟩
/-- room of a depth -/
def rmD (d : Nat) : Room := { frames := d, cells := 0, slots := 0, locals := 40 * d }
/-- the String constants: which entry, its text -/
def strW : List (Nat × String) := [(85, "log"), (91, "needle"), (93, "watch"), (119, "d"), (121, "a"), (123, "o")]
def strL : List Nat := [3, 6, 5, 1, 1, 1]
def strB : List (List Int32) := [[108, 111, 103], [110, 101, 101, 100, 108, 101], [119, 97, 116, 99, 104], [100], [97], [111]]
def aboveT (j : Nat) : Int32 := ([0, 0, 0, 0, 0, 4, 0, 4] : List Int32).getD j 0
def gtys (g : Gam) : List (ClassId × FieldType) := [(g.2.2.1, .int), (g.2.2.2.1 2, .object RX2), (g.2.2.2.1 8, .object RX8), (g.2.2.2.1 6, .object RX6), (g.2.2.2.1 7, .object RX7)]
/-- what a state always has beside the world: classes, the static row, the constants, the nest's links -/
def Evm (g : Gam) (U : State) : Prop := va_K (g.1, g.2.1) vwCl (gtys g) U ∧ (∀ q ∈ nestW, va_Nw (.methodLinkNest q.1 q.2.1 q.2.2.1 q.2.2.2) U) ∧ ∀ (i : Nat) (q : Nat × String), strW[i]? = some q → vk_R RX4 q.1 q.2 (g.2.2.2.2.2.1 i) U
def Ehp (g : Gam) (A : Nat → Prop) (U : State) (H : Heap) : Prop := va_Z RX9 "ABOVE" "[I" (.ref g.2.2.2.2.1) A U H ∧ va_T .int g.2.2.2.2.1 8 (fun j => .int (aboveT j)) A U H ∧ vk_S 6 strL strB g.2.2.2.2.2.1 g.2.2.2.2.2.2 A U H ∧ va_Z "java/lang/String" "COMPACT_STRINGS" "Z" (.int 1) A U H ∧ va_Zq "jdk/internal/util/Preconditions" "SIOOBE_FORMATTER" "Ljava/util/function/BiFunction;" A U H
def Ev (g : Gam) (A : Nat → Prop) (U : State) : Prop := Evm g U ∧ Ehp g A U U.heap
theorem Ehp.kept {g : Gam} {A : Nat → Prop} {U : State} {H H1 : Heap} (h : Ehp g A U H) (hq : ∀ a : Nat, a < H.size → ¬ A a → H1[a]? = H[a]?) : Ehp g A U H1 := ⟨h.1.kept hq, h.2.1.kept hq, h.2.2.1.kept hq, h.2.2.2.1.kept hq, h.2.2.2.2.kept hq⟩
theorem Ehp.moved {g : Gam} {A : Nat → Prop} {u U : State} {H : Heap} (hvm : u.vm.Alike U.vm) (h : Ehp g A u H) : Ehp g A U H := ⟨va_Z.moved hvm h.1, va_T.moved hvm h.2.1, vk_S.moved hvm h.2.2.1, va_Z.moved hvm h.2.2.2.1, va_Zq.moved hvm h.2.2.2.2⟩
theorem Evm.warm {g : Gam} {s U : State} (hW : s.WarmedH U.vm) (h : Evm g s) : Evm g U := ⟨va_K.moved hW.alike h.1, fun q hq => va_Nw.warmM hW (h.2.1 q hq), fun i q hq => vk_R.warm hW (h.2.2 i q hq)⟩
theorem Evm.same {g : Gam} {s U : State} (hv : s.vm = U.vm) (h : Evm g s) : Evm g U := ⟨va_K.moved (by rw [hv]; exact Vm.Alike.refl _) h.1, fun q hq => va_Nw.same rfl hv (h.2.1 q hq), fun i q hq => vk_R.same hv.symm (h.2.2 i q hq)⟩
/-- A CONTRACT: from memory M the method of depth d, with arguments As, returns r and leaves M' -/
def Cn (l : Launch) (g : Gam) (w : Wld) (Y : Mth) (As : List Value) (M : Mem) (r : Option Value) (M' : Mem) : Prop :=
  Met l Y.1 (mws Y) (rmD Y.2.2.2.2) (va_Pc As (fun U => va_P (g.1, g.2.1) vwCl (wws g w M) U.heap ∧ Ev g (wA w) U)) (fun _ st o t => o = .returned r ∧ va_P (g.1, g.2.1) vwCl (wws g w M') t.heap ∧ va_F (wA w) st t) 0 0 (wA w)
/-- THE WALK: at pc, with locals L and stack st, from M the method comes to its end with r, M' -/
def V (l : Launch) (g : Gam) (w : Wld) (Y : Mth) (pc : Nat) (L : List (Nat × Value)) (st : List Value) (M : Mem) (r : Option Value) (M' : Mem) : Prop :=
  ∀ (p : Program) (e : Env) (s : State) (m : MethodId) (args : Array Value) (below : List Frame) (meth : Method) (c : Code) (H : Heap) (locs : List Loc) (ls : Array Slot),
    p.tables.exec = Jvm.exec → c.code = Y.2.1 → c.maxLocals = Y.2.2.1 → meth.sig.returnType = Y.2.2.2.1 → meth.locks = false → s.vm.findClass Y.1.cls = some m.cls → (∀ t ∈ TB, t.before args s = true) → Ev g (wA w) s →
    va_P (g.1, g.2.1) vwCl (wws g w M) H → va_S (wA w) s.heap H locs → lv_has ls Y.2.2.1 L →
    W p l e (rmD Y.2.2.2.2) s m args below meth c H locs 0 0 (MQ below (fun _ st o t => o = .returned r ∧ va_P (g.1, g.2.1) vwCl (wws g w M') t.heap ∧ va_F (wA w) st t) args s 0 0 (wA w)) (F0 m pc ls st)
