def irem (x y : Int32) : Int32 := x - x / y * y
def iushr (x y : Int32) : Int32 := (x.toUInt32 >>> (y.toUInt32 &&& Int32.toUInt32 31)).toInt32
def i2c (x : Int32) : Int32 := (x.toUInt32 % 65536).toInt32
/-- an index within; its place -/
def ixb (i : Int32) (n : Nat) : Bool := decide (0 ≤ i.toInt ∧ i.toInt < n)
def ix (i : Int32) : Nat := i.toNatClampNeg
def z01 (v : Int32) : Bool := decide (v = 0 ∨ v = 1)
theorem ixb_in {i : Int32} {n : Nat} (h : ixb i n = true) : vp_in i n := vp_in_iff.mpr (of_decide_eq_true h)
theorem ixb_lt {i : Int32} {n : Nat} (h : ixb i n = true) : ix i < n := Nat.not_le.mp fun q => ixb_in h (Or.inr q)
theorem V_iconst {l : Launch} {g : Gam} {w : Wld} {Y : Mth} {pc : Nat} {L : List (Nat × Value)} {st : List Value} {M M2 : Mem} {r : Option Value} {n : Int} {x : Int32} (hd : decode Y.2.1 pc = .ok (.iconst n, 1)) (hv : Int32.ofInt n = x) (k : V l g w Y (pc + 1) L (.int x :: st) M r M2) : V l g w Y pc L st M r M2 := by
  intro p e s m args below meth c H locs ls hx hb hml hr hlk ho ht hE hP hS hl
  exact lv_iconst hx hb hd hv (k _ _ _ _ _ _ _ _ _ _ _ hx hb hml hr hlk ho ht hE hP hS hl)
theorem V_bipush {l : Launch} {g : Gam} {w : Wld} {Y : Mth} {pc : Nat} {L : List (Nat × Value)} {st : List Value} {M M2 : Mem} {r : Option Value} {n : Int} {x : Int32} (hd : decode Y.2.1 pc = .ok (.bipush n, 2)) (hv : (Int8.ofInt n).toInt32 = x) (k : V l g w Y (pc + 2) L (.int x :: st) M r M2) : V l g w Y pc L st M r M2 := by
  intro p e s m args below meth c H locs ls hx hb hml hr hlk ho ht hE hP hS hl
  exact lv_bipush hx hb hd hv (k _ _ _ _ _ _ _ _ _ _ _ hx hb hml hr hlk ho ht hE hP hS hl)
theorem V_sipush {l : Launch} {g : Gam} {w : Wld} {Y : Mth} {pc : Nat} {L : List (Nat × Value)} {st : List Value} {M M2 : Mem} {r : Option Value} {n : Int} {x : Int32} (hd : decode Y.2.1 pc = .ok (.sipush n, 3)) (hv : (Int16.ofInt n).toInt32 = x) (k : V l g w Y (pc + 3) L (.int x :: st) M r M2) : V l g w Y pc L st M r M2 := by
  intro p e s m args below meth c H locs ls hx hb hml hr hlk ho ht hE hP hS hl
  exact lv_sipush hx hb hd hv (k _ _ _ _ _ _ _ _ _ _ _ hx hb hml hr hlk ho ht hE hP hS hl)
theorem V_lconst {l : Launch} {g : Gam} {w : Wld} {Y : Mth} {pc : Nat} {L : List (Nat × Value)} {st : List Value} {M M2 : Mem} {r : Option Value} {n : Fin 2} {x : Int64} (hd : decode Y.2.1 pc = .ok (.lconst n, 1)) (hv : Int64.ofNat (n : Nat) = x) (k : V l g w Y (pc + 1) L (.long x :: st) M r M2) : V l g w Y pc L st M r M2 := by
  intro p e s m args below meth c H locs ls hx hb hml hr hlk ho ht hE hP hS hl
  exact lv_lconst hx hb hd hv (k _ _ _ _ _ _ _ _ _ _ _ hx hb hml hr hlk ho ht hE hP hS hl)
theorem V_iload_n {l : Launch} {g : Gam} {w : Wld} {Y : Mth} {pc : Nat} {L : List (Nat × Value)} {st : List Value} {M M2 : Mem} {r : Option Value} {n : Fin 4} {x : Int32} (q : Nat) (hd : decode Y.2.1 pc = .ok (.iload_n n, 1)) (hq : L[q]? = some ((n : Nat), .int x)) (k : V l g w Y (pc + 1) L (.int x :: st) M r M2) : V l g w Y pc L st M r M2 := by
  intro p e s m args below meth c H locs ls hx hb hml hr hlk ho ht hE hP hS hl
  exact lv_iload_n hx hb hd rfl (lv_at hl q hq) (k _ _ _ _ _ _ _ _ _ _ _ hx hb hml hr hlk ho ht hE hP hS hl)
theorem V_iload {l : Launch} {g : Gam} {w : Wld} {Y : Mth} {pc : Nat} {L : List (Nat × Value)} {st : List Value} {M M2 : Mem} {r : Option Value} {n : Nat} {x : Int32} (q : Nat) (hd : decode Y.2.1 pc = .ok (.iload n, 2)) (hq : L[q]? = some (n, .int x)) (k : V l g w Y (pc + 2) L (.int x :: st) M r M2) : V l g w Y pc L st M r M2 := by
  intro p e s m args below meth c H locs ls hx hb hml hr hlk ho ht hE hP hS hl
  exact lv_iload hx hb hd (lv_at hl q hq) (k _ _ _ _ _ _ _ _ _ _ _ hx hb hml hr hlk ho ht hE hP hS hl)
theorem V_lload_n {l : Launch} {g : Gam} {w : Wld} {Y : Mth} {pc : Nat} {L : List (Nat × Value)} {st : List Value} {M M2 : Mem} {r : Option Value} {n : Fin 4} {x : Int64} (q : Nat) (hd : decode Y.2.1 pc = .ok (.lload_n n, 1)) (hq : L[q]? = some ((n : Nat), .long x)) (k : V l g w Y (pc + 1) L (.long x :: st) M r M2) : V l g w Y pc L st M r M2 := by
  intro p e s m args below meth c H locs ls hx hb hml hr hlk ho ht hE hP hS hl
  exact lv_lload_n hx hb hd rfl (lv_at hl q hq) (k _ _ _ _ _ _ _ _ _ _ _ hx hb hml hr hlk ho ht hE hP hS hl)
theorem V_lload {l : Launch} {g : Gam} {w : Wld} {Y : Mth} {pc : Nat} {L : List (Nat × Value)} {st : List Value} {M M2 : Mem} {r : Option Value} {n : Nat} {x : Int64} (q : Nat) (hd : decode Y.2.1 pc = .ok (.lload n, 2)) (hq : L[q]? = some (n, .long x)) (k : V l g w Y (pc + 2) L (.long x :: st) M r M2) : V l g w Y pc L st M r M2 := by
  intro p e s m args below meth c H locs ls hx hb hml hr hlk ho ht hE hP hS hl
  exact lv_lload hx hb hd (lv_at hl q hq) (k _ _ _ _ _ _ _ _ _ _ _ hx hb hml hr hlk ho ht hE hP hS hl)
theorem V_aload_n {l : Launch} {g : Gam} {w : Wld} {Y : Mth} {pc : Nat} {L : List (Nat × Value)} {st : List Value} {M M2 : Mem} {r : Option Value} {n : Fin 4} {x : Nat} (q : Nat) (hd : decode Y.2.1 pc = .ok (.aload_n n, 1)) (hq : L[q]? = some ((n : Nat), .ref x)) (k : V l g w Y (pc + 1) L (.ref x :: st) M r M2) : V l g w Y pc L st M r M2 := by
  intro p e s m args below meth c H locs ls hx hb hml hr hlk ho ht hE hP hS hl
  exact lv_aload_n hx hb hd rfl (lv_at hl q hq) (k _ _ _ _ _ _ _ _ _ _ _ hx hb hml hr hlk ho ht hE hP hS hl)
theorem V_aload {l : Launch} {g : Gam} {w : Wld} {Y : Mth} {pc : Nat} {L : List (Nat × Value)} {st : List Value} {M M2 : Mem} {r : Option Value} {n : Nat} {x : Nat} (q : Nat) (hd : decode Y.2.1 pc = .ok (.aload n, 2)) (hq : L[q]? = some (n, .ref x)) (k : V l g w Y (pc + 2) L (.ref x :: st) M r M2) : V l g w Y pc L st M r M2 := by
  intro p e s m args below meth c H locs ls hx hb hml hr hlk ho ht hE hP hS hl
  exact lv_aload hx hb hd (lv_at hl q hq) (k _ _ _ _ _ _ _ _ _ _ _ hx hb hml hr hlk ho ht hE hP hS hl)
theorem V_istore_n {l : Launch} {g : Gam} {w : Wld} {Y : Mth} {pc : Nat} {L : List (Nat × Value)} {st : List Value} {M M2 : Mem} {r : Option Value} {n : Fin 4} {x : Int32} (L2 : List (Nat × Value)) (hd : decode Y.2.1 pc = .ok (.istore_n n, 1)) (hn : (n : Nat) < Y.2.2.1) (hL : ((n : Nat), Value.int x) :: L.filter (fun q => !(q.1 == ((n : Nat))) && !(q.1 + 1 == ((n : Nat)) && q.2.category == 2)) = L2) (k : V l g w Y (pc + 1) L2 st M r M2) : V l g w Y pc L (.int x :: st) M r M2 := by
  intro p e s m args below meth c H locs ls hx hb hml hr hlk ho ht hE hP hS hl
  exact lv_istore_n hx hb hd rfl hl hn hL (fun ls hl => k _ _ _ _ _ _ _ _ _ _ _ hx hb hml hr hlk ho ht hE hP hS hl)
theorem V_istore {l : Launch} {g : Gam} {w : Wld} {Y : Mth} {pc : Nat} {L : List (Nat × Value)} {st : List Value} {M M2 : Mem} {r : Option Value} {n : Nat} {x : Int32} (L2 : List (Nat × Value)) (hd : decode Y.2.1 pc = .ok (.istore n, 2)) (hn : n < Y.2.2.1) (hL : (n, Value.int x) :: L.filter (fun q => !(q.1 == (n)) && !(q.1 + 1 == (n) && q.2.category == 2)) = L2) (k : V l g w Y (pc + 2) L2 st M r M2) : V l g w Y pc L (.int x :: st) M r M2 := by
  intro p e s m args below meth c H locs ls hx hb hml hr hlk ho ht hE hP hS hl
  exact lv_istore hx hb hd hl hn hL (fun ls hl => k _ _ _ _ _ _ _ _ _ _ _ hx hb hml hr hlk ho ht hE hP hS hl)
theorem V_lstore_n {l : Launch} {g : Gam} {w : Wld} {Y : Mth} {pc : Nat} {L : List (Nat × Value)} {st : List Value} {M M2 : Mem} {r : Option Value} {n : Fin 4} {x : Int64} (L2 : List (Nat × Value)) (hd : decode Y.2.1 pc = .ok (.lstore_n n, 1)) (hn : (n : Nat) + 1 < Y.2.2.1) (hL : ((n : Nat), Value.long x) :: L.filter (fun q => !(q.1 == ((n : Nat))) && (!(q.1 == ((n : Nat)) + 1) && !(q.1 + 1 == ((n : Nat)) && q.2.category == 2))) = L2) (k : V l g w Y (pc + 1) L2 st M r M2) : V l g w Y pc L (.long x :: st) M r M2 := by
  intro p e s m args below meth c H locs ls hx hb hml hr hlk ho ht hE hP hS hl
  exact lv_lstore_n hx hb hd rfl hl hn hL (fun ls hl => k _ _ _ _ _ _ _ _ _ _ _ hx hb hml hr hlk ho ht hE hP hS hl)
theorem V_lstore {l : Launch} {g : Gam} {w : Wld} {Y : Mth} {pc : Nat} {L : List (Nat × Value)} {st : List Value} {M M2 : Mem} {r : Option Value} {n : Nat} {x : Int64} (L2 : List (Nat × Value)) (hd : decode Y.2.1 pc = .ok (.lstore n, 2)) (hn : n + 1 < Y.2.2.1) (hL : (n, Value.long x) :: L.filter (fun q => !(q.1 == (n)) && (!(q.1 == (n) + 1) && !(q.1 + 1 == (n) && q.2.category == 2))) = L2) (k : V l g w Y (pc + 2) L2 st M r M2) : V l g w Y pc L (.long x :: st) M r M2 := by
  intro p e s m args below meth c H locs ls hx hb hml hr hlk ho ht hE hP hS hl
  exact lv_lstore hx hb hd hl hn hL (fun ls hl => k _ _ _ _ _ _ _ _ _ _ _ hx hb hml hr hlk ho ht hE hP hS hl)
theorem V_astore_n {l : Launch} {g : Gam} {w : Wld} {Y : Mth} {pc : Nat} {L : List (Nat × Value)} {st : List Value} {M M2 : Mem} {r : Option Value} {n : Fin 4} {x : Nat} (L2 : List (Nat × Value)) (hd : decode Y.2.1 pc = .ok (.astore_n n, 1)) (hn : (n : Nat) < Y.2.2.1) (hL : ((n : Nat), Value.ref x) :: L.filter (fun q => !(q.1 == ((n : Nat))) && !(q.1 + 1 == ((n : Nat)) && q.2.category == 2)) = L2) (k : V l g w Y (pc + 1) L2 st M r M2) : V l g w Y pc L (.ref x :: st) M r M2 := by
  intro p e s m args below meth c H locs ls hx hb hml hr hlk ho ht hE hP hS hl
  exact lv_astore_n hx hb hd rfl hl hn hL (fun ls hl => k _ _ _ _ _ _ _ _ _ _ _ hx hb hml hr hlk ho ht hE hP hS hl)
theorem V_astore {l : Launch} {g : Gam} {w : Wld} {Y : Mth} {pc : Nat} {L : List (Nat × Value)} {st : List Value} {M M2 : Mem} {r : Option Value} {n : Nat} {x : Nat} (L2 : List (Nat × Value)) (hd : decode Y.2.1 pc = .ok (.astore n, 2)) (hn : n < Y.2.2.1) (hL : (n, Value.ref x) :: L.filter (fun q => !(q.1 == (n)) && !(q.1 + 1 == (n) && q.2.category == 2)) = L2) (k : V l g w Y (pc + 2) L2 st M r M2) : V l g w Y pc L (.ref x :: st) M r M2 := by
  intro p e s m args below meth c H locs ls hx hb hml hr hlk ho ht hE hP hS hl
  exact lv_astore hx hb hd hl hn hL (fun ls hl => k _ _ _ _ _ _ _ _ _ _ _ hx hb hml hr hlk ho ht hE hP hS hl)
theorem V_iinc {l : Launch} {g : Gam} {w : Wld} {Y : Mth} {pc : Nat} {L : List (Nat × Value)} {st : List Value} {M M2 : Mem} {r : Option Value} {n : Nat} {d : Int} {x y : Int32} (q : Nat) (L2 : List (Nat × Value)) (hd : decode Y.2.1 pc = .ok (.iinc n d, 3)) (hq : L[q]? = some (n, .int x)) (hv : x + Int32.ofInt d = y) (hn : n < Y.2.2.1) (hL : (n, Value.int y) :: L.filter (fun q => !(q.1 == n) && !(q.1 + 1 == n && q.2.category == 2)) = L2) (k : V l g w Y (pc + 3) L2 st M r M2) : V l g w Y pc L st M r M2 := by
  intro p e s m args below meth c H locs ls hx hb hml hr hlk ho ht hE hP hS hl
  exact lv_iinc hx hb hd hl hq hv hn hL (fun ls hl => k _ _ _ _ _ _ _ _ _ _ _ hx hb hml hr hlk ho ht hE hP hS hl)
theorem V_iadd {l : Launch} {g : Gam} {w : Wld} {Y : Mth} {pc : Nat} {L : List (Nat × Value)} {st : List Value} {M M2 : Mem} {r : Option Value} {x y : Int32} (hd : decode Y.2.1 pc = .ok (.iadd, 1)) (k : V l g w Y (pc + 1) L (.int (x + y) :: st) M r M2) : V l g w Y pc L (.int y :: .int x :: st) M r M2 := by
  intro p e s m args below meth c H locs ls hx hb hml hr hlk ho ht hE hP hS hl
  exact lv_iadd hx hb hd (k _ _ _ _ _ _ _ _ _ _ _ hx hb hml hr hlk ho ht hE hP hS hl)
theorem V_isub {l : Launch} {g : Gam} {w : Wld} {Y : Mth} {pc : Nat} {L : List (Nat × Value)} {st : List Value} {M M2 : Mem} {r : Option Value} {x y : Int32} (hd : decode Y.2.1 pc = .ok (.isub, 1)) (k : V l g w Y (pc + 1) L (.int (x - y) :: st) M r M2) : V l g w Y pc L (.int y :: .int x :: st) M r M2 := by
  intro p e s m args below meth c H locs ls hx hb hml hr hlk ho ht hE hP hS hl
  exact lv_isub hx hb hd (k _ _ _ _ _ _ _ _ _ _ _ hx hb hml hr hlk ho ht hE hP hS hl)
theorem V_imul {l : Launch} {g : Gam} {w : Wld} {Y : Mth} {pc : Nat} {L : List (Nat × Value)} {st : List Value} {M M2 : Mem} {r : Option Value} {x y : Int32} (hd : decode Y.2.1 pc = .ok (.imul, 1)) (k : V l g w Y (pc + 1) L (.int (x * y) :: st) M r M2) : V l g w Y pc L (.int y :: .int x :: st) M r M2 := by
  intro p e s m args below meth c H locs ls hx hb hml hr hlk ho ht hE hP hS hl
  exact lv_imul hx hb hd (k _ _ _ _ _ _ _ _ _ _ _ hx hb hml hr hlk ho ht hE hP hS hl)
theorem V_iand {l : Launch} {g : Gam} {w : Wld} {Y : Mth} {pc : Nat} {L : List (Nat × Value)} {st : List Value} {M M2 : Mem} {r : Option Value} {x y : Int32} (hd : decode Y.2.1 pc = .ok (.iand, 1)) (k : V l g w Y (pc + 1) L (.int (x &&& y) :: st) M r M2) : V l g w Y pc L (.int y :: .int x :: st) M r M2 := by
  intro p e s m args below meth c H locs ls hx hb hml hr hlk ho ht hE hP hS hl
  exact lv_iand hx hb hd (k _ _ _ _ _ _ _ _ _ _ _ hx hb hml hr hlk ho ht hE hP hS hl)
theorem V_ior {l : Launch} {g : Gam} {w : Wld} {Y : Mth} {pc : Nat} {L : List (Nat × Value)} {st : List Value} {M M2 : Mem} {r : Option Value} {x y : Int32} (hd : decode Y.2.1 pc = .ok (.ior, 1)) (k : V l g w Y (pc + 1) L (.int (x ||| y) :: st) M r M2) : V l g w Y pc L (.int y :: .int x :: st) M r M2 := by
  intro p e s m args below meth c H locs ls hx hb hml hr hlk ho ht hE hP hS hl
  exact lv_ior hx hb hd (k _ _ _ _ _ _ _ _ _ _ _ hx hb hml hr hlk ho ht hE hP hS hl)
theorem V_ishl {l : Launch} {g : Gam} {w : Wld} {Y : Mth} {pc : Nat} {L : List (Nat × Value)} {st : List Value} {M M2 : Mem} {r : Option Value} {x y : Int32} (hd : decode Y.2.1 pc = .ok (.ishl, 1)) (k : V l g w Y (pc + 1) L (.int (x <<< (y &&& 31)) :: st) M r M2) : V l g w Y pc L (.int y :: .int x :: st) M r M2 := by
  intro p e s m args below meth c H locs ls hx hb hml hr hlk ho ht hE hP hS hl
  exact lv_ishl hx hb hd (k _ _ _ _ _ _ _ _ _ _ _ hx hb hml hr hlk ho ht hE hP hS hl)
theorem V_ishr {l : Launch} {g : Gam} {w : Wld} {Y : Mth} {pc : Nat} {L : List (Nat × Value)} {st : List Value} {M M2 : Mem} {r : Option Value} {x y : Int32} (hd : decode Y.2.1 pc = .ok (.ishr, 1)) (k : V l g w Y (pc + 1) L (.int (x >>> (y &&& 31)) :: st) M r M2) : V l g w Y pc L (.int y :: .int x :: st) M r M2 := by
  intro p e s m args below meth c H locs ls hx hb hml hr hlk ho ht hE hP hS hl
  exact lv_ishr hx hb hd (k _ _ _ _ _ _ _ _ _ _ _ hx hb hml hr hlk ho ht hE hP hS hl)
theorem V_idiv {l : Launch} {g : Gam} {w : Wld} {Y : Mth} {pc : Nat} {L : List (Nat × Value)} {st : List Value} {M M2 : Mem} {r : Option Value} {x y : Int32} (hd : decode Y.2.1 pc = .ok (.idiv, 1)) (hne : ¬ y = 0) (k : V l g w Y (pc + 1) L (.int (x / y) :: st) M r M2) : V l g w Y pc L (.int y :: .int x :: st) M r M2 := by
  intro p e s m args below meth c H locs ls hx hb hml hr hlk ho ht hE hP hS hl
  exact lv_idiv hx hb hd hne (k _ _ _ _ _ _ _ _ _ _ _ hx hb hml hr hlk ho ht hE hP hS hl)
theorem V_irem {l : Launch} {g : Gam} {w : Wld} {Y : Mth} {pc : Nat} {L : List (Nat × Value)} {st : List Value} {M M2 : Mem} {r : Option Value} {x y : Int32} (hd : decode Y.2.1 pc = .ok (.irem, 1)) (hne : ¬ y = 0) (k : V l g w Y (pc + 1) L (.int (irem x y) :: st) M r M2) : V l g w Y pc L (.int y :: .int x :: st) M r M2 := by
  intro p e s m args below meth c H locs ls hx hb hml hr hlk ho ht hE hP hS hl
  exact lv_irem hx hb hd hne (k _ _ _ _ _ _ _ _ _ _ _ hx hb hml hr hlk ho ht hE hP hS hl)
theorem V_ineg {l : Launch} {g : Gam} {w : Wld} {Y : Mth} {pc : Nat} {L : List (Nat × Value)} {st : List Value} {M M2 : Mem} {r : Option Value} {x : Int32} (hd : decode Y.2.1 pc = .ok (.ineg, 1)) (k : V l g w Y (pc + 1) L (.int (-x) :: st) M r M2) : V l g w Y pc L (.int x :: st) M r M2 := by
  intro p e s m args below meth c H locs ls hx hb hml hr hlk ho ht hE hP hS hl
  exact lv_ineg hx hb hd (k _ _ _ _ _ _ _ _ _ _ _ hx hb hml hr hlk ho ht hE hP hS hl)
theorem V_iushr {l : Launch} {g : Gam} {w : Wld} {Y : Mth} {pc : Nat} {L : List (Nat × Value)} {st : List Value} {M M2 : Mem} {r : Option Value} {x y : Int32} (hd : decode Y.2.1 pc = .ok (.iushr, 1)) (k : V l g w Y (pc + 1) L (.int (iushr x y) :: st) M r M2) : V l g w Y pc L (.int y :: .int x :: st) M r M2 := by
  intro p e s m args below meth c H locs ls hx hb hml hr hlk ho ht hE hP hS hl
  exact lv_iushr hx hb hd rfl (k _ _ _ _ _ _ _ _ _ _ _ hx hb hml hr hlk ho ht hE hP hS hl)
theorem V_ladd {l : Launch} {g : Gam} {w : Wld} {Y : Mth} {pc : Nat} {L : List (Nat × Value)} {st : List Value} {M M2 : Mem} {r : Option Value} {x y : Int64} (hd : decode Y.2.1 pc = .ok (.ladd, 1)) (k : V l g w Y (pc + 1) L (.long (x + y) :: st) M r M2) : V l g w Y pc L (.long y :: .long x :: st) M r M2 := by
  intro p e s m args below meth c H locs ls hx hb hml hr hlk ho ht hE hP hS hl
  exact lv_ladd hx hb hd (k _ _ _ _ _ _ _ _ _ _ _ hx hb hml hr hlk ho ht hE hP hS hl)
theorem V_ldiv {l : Launch} {g : Gam} {w : Wld} {Y : Mth} {pc : Nat} {L : List (Nat × Value)} {st : List Value} {M M2 : Mem} {r : Option Value} {x y : Int64} (hd : decode Y.2.1 pc = .ok (.ldiv, 1)) (hne : ¬ y = 0) (k : V l g w Y (pc + 1) L (.long (x / y) :: st) M r M2) : V l g w Y pc L (.long y :: .long x :: st) M r M2 := by
  intro p e s m args below meth c H locs ls hx hb hml hr hlk ho ht hE hP hS hl
  exact lv_ldiv hx hb hd hne (k _ _ _ _ _ _ _ _ _ _ _ hx hb hml hr hlk ho ht hE hP hS hl)
theorem V_i2l {l : Launch} {g : Gam} {w : Wld} {Y : Mth} {pc : Nat} {L : List (Nat × Value)} {st : List Value} {M M2 : Mem} {r : Option Value} {x : Int32} (hd : decode Y.2.1 pc = .ok (.i2l, 1)) (k : V l g w Y (pc + 1) L (.long x.toInt64 :: st) M r M2) : V l g w Y pc L (.int x :: st) M r M2 := by
  intro p e s m args below meth c H locs ls hx hb hml hr hlk ho ht hE hP hS hl
  exact lv_i2l hx hb hd rfl (k _ _ _ _ _ _ _ _ _ _ _ hx hb hml hr hlk ho ht hE hP hS hl)
theorem V_i2c {l : Launch} {g : Gam} {w : Wld} {Y : Mth} {pc : Nat} {L : List (Nat × Value)} {st : List Value} {M M2 : Mem} {r : Option Value} {x : Int32} (hd : decode Y.2.1 pc = .ok (.i2c, 1)) (k : V l g w Y (pc + 1) L (.int (i2c x) :: st) M r M2) : V l g w Y pc L (.int x :: st) M r M2 := by
  intro p e s m args below meth c H locs ls hx hb hml hr hlk ho ht hE hP hS hl
  exact lv_i2c hx hb hd rfl (k _ _ _ _ _ _ _ _ _ _ _ hx hb hml hr hlk ho ht hE hP hS hl)
theorem V_l2i {l : Launch} {g : Gam} {w : Wld} {Y : Mth} {pc : Nat} {L : List (Nat × Value)} {st : List Value} {M M2 : Mem} {r : Option Value} {x : Int64} (hd : decode Y.2.1 pc = .ok (.l2i, 1)) (k : V l g w Y (pc + 1) L (.int x.toInt32 :: st) M r M2) : V l g w Y pc L (.long x :: st) M r M2 := by
  intro p e s m args below meth c H locs ls hx hb hml hr hlk ho ht hE hP hS hl
  exact lv_l2i hx hb hd rfl (k _ _ _ _ _ _ _ _ _ _ _ hx hb hml hr hlk ho ht hE hP hS hl)
theorem V_lcmp {l : Launch} {g : Gam} {w : Wld} {Y : Mth} {pc : Nat} {L : List (Nat × Value)} {st : List Value} {M M2 : Mem} {r : Option Value} {x y : Int64} (hd : decode Y.2.1 pc = .ok (.lcmp, 1)) (k : V l g w Y (pc + 1) L (.int (lg_cmp x y) :: st) M r M2) : V l g w Y pc L (.long y :: .long x :: st) M r M2 := by
  intro p e s m args below meth c H locs ls hx hb hml hr hlk ho ht hE hP hS hl
  exact W.lcmp hx hb hd (k _ _ _ _ _ _ _ _ _ _ _ hx hb hml hr hlk ho ht hE hP hS hl)
theorem V_dup {l : Launch} {g : Gam} {w : Wld} {Y : Mth} {pc : Nat} {L : List (Nat × Value)} {st : List Value} {M M2 : Mem} {r : Option Value} {x : Value} (hd : decode Y.2.1 pc = .ok (.dup, 1)) (hc : x.category = 1) (k : V l g w Y (pc + 1) L (x :: x :: st) M r M2) : V l g w Y pc L (x :: st) M r M2 := by
  intro p e s m args below meth c H locs ls hx hb hml hr hlk ho ht hE hP hS hl
  exact lv_dup hx hb hd hc (k _ _ _ _ _ _ _ _ _ _ _ hx hb hml hr hlk ho ht hE hP hS hl)
theorem V_pop {l : Launch} {g : Gam} {w : Wld} {Y : Mth} {pc : Nat} {L : List (Nat × Value)} {st : List Value} {M M2 : Mem} {r : Option Value} {x : Value} (hd : decode Y.2.1 pc = .ok (.pop, 1)) (hc : x.category = 1) (k : V l g w Y (pc + 1) L st M r M2) : V l g w Y pc L (x :: st) M r M2 := by
  intro p e s m args below meth c H locs ls hx hb hml hr hlk ho ht hE hP hS hl
  exact lv_pop hx hb hd hc (k _ _ _ _ _ _ _ _ _ _ _ hx hb hml hr hlk ho ht hE hP hS hl)
theorem V_dup_x1 {l : Launch} {g : Gam} {w : Wld} {Y : Mth} {pc : Nat} {L : List (Nat × Value)} {st : List Value} {M M2 : Mem} {r : Option Value} {x y : Value} (hd : decode Y.2.1 pc = .ok (.dup_x1, 1)) (hc : x.category = 1) (hc2 : y.category = 1) (k : V l g w Y (pc + 1) L (x :: y :: x :: st) M r M2) : V l g w Y pc L (x :: y :: st) M r M2 := by
  intro p e s m args below meth c H locs ls hx hb hml hr hlk ho ht hE hP hS hl
  exact lv_dup_x1 hx hb hd hc hc2 (k _ _ _ _ _ _ _ _ _ _ _ hx hb hml hr hlk ho ht hE hP hS hl)
theorem V_dup2 {l : Launch} {g : Gam} {w : Wld} {Y : Mth} {pc : Nat} {L : List (Nat × Value)} {st : List Value} {M M2 : Mem} {r : Option Value} {x y : Value} (hd : decode Y.2.1 pc = .ok (.dup2, 1)) (hc : x.category = 1) (hc2 : y.category = 1) (k : V l g w Y (pc + 1) L (x :: y :: x :: y :: st) M r M2) : V l g w Y pc L (x :: y :: st) M r M2 := by
  intro p e s m args below meth c H locs ls hx hb hml hr hlk ho ht hE hP hS hl
  exact lv_dup2_11 hx hb hd hc hc2 (k _ _ _ _ _ _ _ _ _ _ _ hx hb hml hr hlk ho ht hE hP hS hl)
theorem V_if_eq {l : Launch} {g : Gam} {w : Wld} {Y : Mth} {pc : Nat} {L : List (Nat × Value)} {st : List Value} {M M2 : Mem} {r : Option Value} {x : Int32} {off : Int} {tgt : Nat} {α : Type} {F G : Option α} {z : α} (hd : decode Y.2.1 pc = .ok (.ifCond .eq off, 3)) (htg : (pc : Int) + off = (tgt : Int)) (hf : (if x = 0 then F else G) = some z) (kt : F = some z → V l g w Y tgt L st M r M2) (kf : G = some z → V l g w Y (pc + 3) L st M r M2) : V l g w Y pc L (.int x :: st) M r M2 := by
  intro p e s m args below meth c H locs ls hx hb hml hr hlk ho ht hE hP hS hl
  exact lv_if_eq hx hb hd htg (fun q => kt (by rw [if_pos q] at hf; exact hf) _ _ _ _ _ _ _ _ _ _ _ hx hb hml hr hlk ho ht hE hP hS hl) (fun q => kf (by rw [if_neg q] at hf; exact hf) _ _ _ _ _ _ _ _ _ _ _ hx hb hml hr hlk ho ht hE hP hS hl)
theorem V_icmp_eq {l : Launch} {g : Gam} {w : Wld} {Y : Mth} {pc : Nat} {L : List (Nat × Value)} {st : List Value} {M M2 : Mem} {r : Option Value} {x y : Int32} {off : Int} {tgt : Nat} {α : Type} {F G : Option α} {z : α} (hd : decode Y.2.1 pc = .ok (.if_icmp .eq off, 3)) (htg : (pc : Int) + off = (tgt : Int)) (hf : (if x = y then F else G) = some z) (kt : F = some z → V l g w Y tgt L st M r M2) (kf : G = some z → V l g w Y (pc + 3) L st M r M2) : V l g w Y pc L (.int y :: .int x :: st) M r M2 := by
  intro p e s m args below meth c H locs ls hx hb hml hr hlk ho ht hE hP hS hl
  exact lv_icmp_eq hx hb hd htg (fun q => kt (by rw [if_pos q] at hf; exact hf) _ _ _ _ _ _ _ _ _ _ _ hx hb hml hr hlk ho ht hE hP hS hl) (fun q => kf (by rw [if_neg q] at hf; exact hf) _ _ _ _ _ _ _ _ _ _ _ hx hb hml hr hlk ho ht hE hP hS hl)
theorem V_if_ne {l : Launch} {g : Gam} {w : Wld} {Y : Mth} {pc : Nat} {L : List (Nat × Value)} {st : List Value} {M M2 : Mem} {r : Option Value} {x : Int32} {off : Int} {tgt : Nat} {α : Type} {F G : Option α} {z : α} (hd : decode Y.2.1 pc = .ok (.ifCond .ne off, 3)) (htg : (pc : Int) + off = (tgt : Int)) (hf : (if x = 0 then G else F) = some z) (kt : F = some z → V l g w Y tgt L st M r M2) (kf : G = some z → V l g w Y (pc + 3) L st M r M2) : V l g w Y pc L (.int x :: st) M r M2 := by
  intro p e s m args below meth c H locs ls hx hb hml hr hlk ho ht hE hP hS hl
  exact lv_if_ne hx hb hd htg (fun q => kt (by rw [if_neg q] at hf; exact hf) _ _ _ _ _ _ _ _ _ _ _ hx hb hml hr hlk ho ht hE hP hS hl) (fun q => kf (by rw [if_pos q] at hf; exact hf) _ _ _ _ _ _ _ _ _ _ _ hx hb hml hr hlk ho ht hE hP hS hl)
theorem V_icmp_ne {l : Launch} {g : Gam} {w : Wld} {Y : Mth} {pc : Nat} {L : List (Nat × Value)} {st : List Value} {M M2 : Mem} {r : Option Value} {x y : Int32} {off : Int} {tgt : Nat} {α : Type} {F G : Option α} {z : α} (hd : decode Y.2.1 pc = .ok (.if_icmp .ne off, 3)) (htg : (pc : Int) + off = (tgt : Int)) (hf : (if x = y then G else F) = some z) (kt : F = some z → V l g w Y tgt L st M r M2) (kf : G = some z → V l g w Y (pc + 3) L st M r M2) : V l g w Y pc L (.int y :: .int x :: st) M r M2 := by
  intro p e s m args below meth c H locs ls hx hb hml hr hlk ho ht hE hP hS hl
  exact lv_icmp_ne hx hb hd htg (fun q => kt (by rw [if_neg q] at hf; exact hf) _ _ _ _ _ _ _ _ _ _ _ hx hb hml hr hlk ho ht hE hP hS hl) (fun q => kf (by rw [if_pos q] at hf; exact hf) _ _ _ _ _ _ _ _ _ _ _ hx hb hml hr hlk ho ht hE hP hS hl)
theorem V_if_lt {l : Launch} {g : Gam} {w : Wld} {Y : Mth} {pc : Nat} {L : List (Nat × Value)} {st : List Value} {M M2 : Mem} {r : Option Value} {x : Int32} {off : Int} {tgt : Nat} {α : Type} {F G : Option α} {z : α} (hd : decode Y.2.1 pc = .ok (.ifCond .lt off, 3)) (htg : (pc : Int) + off = (tgt : Int)) (hf : (if x < 0 then F else G) = some z) (kt : F = some z → V l g w Y tgt L st M r M2) (kf : G = some z → V l g w Y (pc + 3) L st M r M2) : V l g w Y pc L (.int x :: st) M r M2 := by
  intro p e s m args below meth c H locs ls hx hb hml hr hlk ho ht hE hP hS hl
  exact lv_if_lt hx hb hd htg (fun q => kt (by rw [if_pos q] at hf; exact hf) _ _ _ _ _ _ _ _ _ _ _ hx hb hml hr hlk ho ht hE hP hS hl) (fun q => kf (by rw [if_neg q] at hf; exact hf) _ _ _ _ _ _ _ _ _ _ _ hx hb hml hr hlk ho ht hE hP hS hl)
theorem V_icmp_lt {l : Launch} {g : Gam} {w : Wld} {Y : Mth} {pc : Nat} {L : List (Nat × Value)} {st : List Value} {M M2 : Mem} {r : Option Value} {x y : Int32} {off : Int} {tgt : Nat} {α : Type} {F G : Option α} {z : α} (hd : decode Y.2.1 pc = .ok (.if_icmp .lt off, 3)) (htg : (pc : Int) + off = (tgt : Int)) (hf : (if x < y then F else G) = some z) (kt : F = some z → V l g w Y tgt L st M r M2) (kf : G = some z → V l g w Y (pc + 3) L st M r M2) : V l g w Y pc L (.int y :: .int x :: st) M r M2 := by
  intro p e s m args below meth c H locs ls hx hb hml hr hlk ho ht hE hP hS hl
  exact lv_icmp_lt hx hb hd htg (fun q => kt (by rw [if_pos q] at hf; exact hf) _ _ _ _ _ _ _ _ _ _ _ hx hb hml hr hlk ho ht hE hP hS hl) (fun q => kf (by rw [if_neg q] at hf; exact hf) _ _ _ _ _ _ _ _ _ _ _ hx hb hml hr hlk ho ht hE hP hS hl)
theorem V_if_ge {l : Launch} {g : Gam} {w : Wld} {Y : Mth} {pc : Nat} {L : List (Nat × Value)} {st : List Value} {M M2 : Mem} {r : Option Value} {x : Int32} {off : Int} {tgt : Nat} {α : Type} {F G : Option α} {z : α} (hd : decode Y.2.1 pc = .ok (.ifCond .ge off, 3)) (htg : (pc : Int) + off = (tgt : Int)) (hf : (if 0 ≤ x then F else G) = some z) (kt : F = some z → V l g w Y tgt L st M r M2) (kf : G = some z → V l g w Y (pc + 3) L st M r M2) : V l g w Y pc L (.int x :: st) M r M2 := by
  intro p e s m args below meth c H locs ls hx hb hml hr hlk ho ht hE hP hS hl
  exact lv_if_ge hx hb hd htg (fun q => kt (by rw [if_pos q] at hf; exact hf) _ _ _ _ _ _ _ _ _ _ _ hx hb hml hr hlk ho ht hE hP hS hl) (fun q => kf (by rw [if_neg q] at hf; exact hf) _ _ _ _ _ _ _ _ _ _ _ hx hb hml hr hlk ho ht hE hP hS hl)
theorem V_icmp_ge {l : Launch} {g : Gam} {w : Wld} {Y : Mth} {pc : Nat} {L : List (Nat × Value)} {st : List Value} {M M2 : Mem} {r : Option Value} {x y : Int32} {off : Int} {tgt : Nat} {α : Type} {F G : Option α} {z : α} (hd : decode Y.2.1 pc = .ok (.if_icmp .ge off, 3)) (htg : (pc : Int) + off = (tgt : Int)) (hf : (if y ≤ x then F else G) = some z) (kt : F = some z → V l g w Y tgt L st M r M2) (kf : G = some z → V l g w Y (pc + 3) L st M r M2) : V l g w Y pc L (.int y :: .int x :: st) M r M2 := by
  intro p e s m args below meth c H locs ls hx hb hml hr hlk ho ht hE hP hS hl
  exact lv_icmp_ge hx hb hd htg (fun q => kt (by rw [if_pos q] at hf; exact hf) _ _ _ _ _ _ _ _ _ _ _ hx hb hml hr hlk ho ht hE hP hS hl) (fun q => kf (by rw [if_neg q] at hf; exact hf) _ _ _ _ _ _ _ _ _ _ _ hx hb hml hr hlk ho ht hE hP hS hl)
theorem V_if_gt {l : Launch} {g : Gam} {w : Wld} {Y : Mth} {pc : Nat} {L : List (Nat × Value)} {st : List Value} {M M2 : Mem} {r : Option Value} {x : Int32} {off : Int} {tgt : Nat} {α : Type} {F G : Option α} {z : α} (hd : decode Y.2.1 pc = .ok (.ifCond .gt off, 3)) (htg : (pc : Int) + off = (tgt : Int)) (hf : (if 0 < x then F else G) = some z) (kt : F = some z → V l g w Y tgt L st M r M2) (kf : G = some z → V l g w Y (pc + 3) L st M r M2) : V l g w Y pc L (.int x :: st) M r M2 := by
  intro p e s m args below meth c H locs ls hx hb hml hr hlk ho ht hE hP hS hl
  exact lv_if_gt hx hb hd htg (fun q => kt (by rw [if_pos q] at hf; exact hf) _ _ _ _ _ _ _ _ _ _ _ hx hb hml hr hlk ho ht hE hP hS hl) (fun q => kf (by rw [if_neg q] at hf; exact hf) _ _ _ _ _ _ _ _ _ _ _ hx hb hml hr hlk ho ht hE hP hS hl)
theorem V_icmp_gt {l : Launch} {g : Gam} {w : Wld} {Y : Mth} {pc : Nat} {L : List (Nat × Value)} {st : List Value} {M M2 : Mem} {r : Option Value} {x y : Int32} {off : Int} {tgt : Nat} {α : Type} {F G : Option α} {z : α} (hd : decode Y.2.1 pc = .ok (.if_icmp .gt off, 3)) (htg : (pc : Int) + off = (tgt : Int)) (hf : (if y < x then F else G) = some z) (kt : F = some z → V l g w Y tgt L st M r M2) (kf : G = some z → V l g w Y (pc + 3) L st M r M2) : V l g w Y pc L (.int y :: .int x :: st) M r M2 := by
  intro p e s m args below meth c H locs ls hx hb hml hr hlk ho ht hE hP hS hl
  exact lv_icmp_gt hx hb hd htg (fun q => kt (by rw [if_pos q] at hf; exact hf) _ _ _ _ _ _ _ _ _ _ _ hx hb hml hr hlk ho ht hE hP hS hl) (fun q => kf (by rw [if_neg q] at hf; exact hf) _ _ _ _ _ _ _ _ _ _ _ hx hb hml hr hlk ho ht hE hP hS hl)
theorem V_if_le {l : Launch} {g : Gam} {w : Wld} {Y : Mth} {pc : Nat} {L : List (Nat × Value)} {st : List Value} {M M2 : Mem} {r : Option Value} {x : Int32} {off : Int} {tgt : Nat} {α : Type} {F G : Option α} {z : α} (hd : decode Y.2.1 pc = .ok (.ifCond .le off, 3)) (htg : (pc : Int) + off = (tgt : Int)) (hf : (if x ≤ 0 then F else G) = some z) (kt : F = some z → V l g w Y tgt L st M r M2) (kf : G = some z → V l g w Y (pc + 3) L st M r M2) : V l g w Y pc L (.int x :: st) M r M2 := by
  intro p e s m args below meth c H locs ls hx hb hml hr hlk ho ht hE hP hS hl
  exact lv_if_le hx hb hd htg (fun q => kt (by rw [if_pos q] at hf; exact hf) _ _ _ _ _ _ _ _ _ _ _ hx hb hml hr hlk ho ht hE hP hS hl) (fun q => kf (by rw [if_neg q] at hf; exact hf) _ _ _ _ _ _ _ _ _ _ _ hx hb hml hr hlk ho ht hE hP hS hl)
theorem V_icmp_le {l : Launch} {g : Gam} {w : Wld} {Y : Mth} {pc : Nat} {L : List (Nat × Value)} {st : List Value} {M M2 : Mem} {r : Option Value} {x y : Int32} {off : Int} {tgt : Nat} {α : Type} {F G : Option α} {z : α} (hd : decode Y.2.1 pc = .ok (.if_icmp .le off, 3)) (htg : (pc : Int) + off = (tgt : Int)) (hf : (if x ≤ y then F else G) = some z) (kt : F = some z → V l g w Y tgt L st M r M2) (kf : G = some z → V l g w Y (pc + 3) L st M r M2) : V l g w Y pc L (.int y :: .int x :: st) M r M2 := by
  intro p e s m args below meth c H locs ls hx hb hml hr hlk ho ht hE hP hS hl
  exact lv_icmp_le hx hb hd htg (fun q => kt (by rw [if_pos q] at hf; exact hf) _ _ _ _ _ _ _ _ _ _ _ hx hb hml hr hlk ho ht hE hP hS hl) (fun q => kf (by rw [if_neg q] at hf; exact hf) _ _ _ _ _ _ _ _ _ _ _ hx hb hml hr hlk ho ht hE hP hS hl)
theorem V_goto {l : Launch} {g : Gam} {w : Wld} {Y : Mth} {pc : Nat} {L : List (Nat × Value)} {st : List Value} {M M2 : Mem} {r : Option Value} {off : Int} {tgt : Nat} (hd : decode Y.2.1 pc = .ok (.goto off, 3)) (htg : (pc : Int) + off = (tgt : Int)) (k : V l g w Y tgt L st M r M2) : V l g w Y pc L st M r M2 := by
  intro p e s m args below meth c H locs ls hx hb hml hr hlk ho ht hE hP hS hl
  exact lv_goto hx hb hd htg (k _ _ _ _ _ _ _ _ _ _ _ hx hb hml hr hlk ho ht hE hP hS hl)
theorem V_ldc {l : Launch} {g : Gam} {w : Wld} {Y : Mth} {pc : Nat} {L : List (Nat × Value)} {st : List Value} {M M2 : Mem} {r : Option Value} {ix : Nat} {x : Int32} (hd : decode Y.2.1 pc = .ok (.ldc ix, 2)) (hw : Cond.constant Y.1.cls ix x ∈ TB) (k : V l g w Y (pc + 2) L (.int x :: st) M r M2) : V l g w Y pc L st M r M2 := by
  intro p e s m args below meth c H locs ls hx hb hml hr hlk ho ht hE hP hS hl
  exact lv_ldc hx hb ho (ht _ hw) hd (k _ _ _ _ _ _ _ _ _ _ _ hx hb hml hr hlk ho ht hE hP hS hl)
theorem V_ldcw {l : Launch} {g : Gam} {w : Wld} {Y : Mth} {pc : Nat} {L : List (Nat × Value)} {st : List Value} {M M2 : Mem} {r : Option Value} {ix : Nat} {x : Int32} (hd : decode Y.2.1 pc = .ok (.ldc_w ix, 3)) (hw : Cond.constant Y.1.cls ix x ∈ TB) (k : V l g w Y (pc + 3) L (.int x :: st) M r M2) : V l g w Y pc L st M r M2 := by
  intro p e s m args below meth c H locs ls hx hb hml hr hlk ho ht hE hP hS hl
  exact lv_ldcw hx hb ho (ht _ hw) hd (k _ _ _ _ _ _ _ _ _ _ _ hx hb hml hr hlk ho ht hE hP hS hl)
theorem V_ldc2 {l : Launch} {g : Gam} {w : Wld} {Y : Mth} {pc : Nat} {L : List (Nat × Value)} {st : List Value} {M M2 : Mem} {r : Option Value} {ix : Nat} {x : Int64} (hd : decode Y.2.1 pc = .ok (.ldc2_w ix, 3)) (hw : Cond.constantLong Y.1.cls ix x ∈ TB) (k : V l g w Y (pc + 3) L (.long x :: st) M r M2) : V l g w Y pc L st M r M2 := by
  intro p e s m args below meth c H locs ls hx hb hml hr hlk ho ht hE hP hS hl
  exact lv_ldc2 hx hb ho (ht _ hw) hd (k _ _ _ _ _ _ _ _ _ _ _ hx hb hml hr hlk ho ht hE hP hS hl)
