section VM
variable {l : Launch} {g : Gam} {w : Wld} {Y : Mth} {pc : Nat} {L : List (Nat × Value)} {st : List Value} {M M2 : Mem} {r : Option Value}
def imax (x y : Int32) : Int32 := if x < y then y else x
def imin (x y : Int32) : Int32 := if y < x then y else x
def iabs (x : Int32) : Int32 := if 0 ≤ x then x else 0 - x
def lmax (x y : Int64) : Int64 := if y < x then x else y
def lmin (x y : Int64) : Int64 := if y < x then y else x
theorem V_mmax {idx : Nat} {x y : Int32} (hd0 : 1 ≤ Y.2.2.2.2) (hk : Cond.static Lib.Math.max.name ∈ TB ∧ Cond.initialized "java/lang/Math" ∈ TB ∧ Cond.code Lib.Math.max.name Lib.Math.max.code 2 (some .int) ∈ TB) (hw : Cond.methodLink Y.1.cls idx Lib.Math.max.name ∈ TB) (hrm : (st.map fun v => v.category).sum ≤ 8) (hd : decode Y.2.1 pc = .ok (.invokestatic idx, 3)) (kk : V l g w Y (pc + 3) L (.int (imax x y) :: st) M r M2) : V l g w Y pc L (.int y :: .int x :: st) M r M2 := by
  intro p e s m args below meth c H locs ls hx hb hml hr hlk ho ht hE hP hS hl
  exact va_mmax hx hb (hml.trans hl.1.symm) ho (ht _ hw) (ht _ hk.1) (ht _ hk.2.1) (ht _ hk.2.2) hd0 (by simp only [rmD]; omega) (Nat.zero_le _) (Nat.zero_le _) hd (kk _ _ _ _ _ _ _ _ _ _ _ hx hb hml hr hlk ho ht hE hP hS hl)
theorem V_mmin {idx : Nat} {x y : Int32} (hd0 : 1 ≤ Y.2.2.2.2) (hk : Cond.static Lib.Math.min.name ∈ TB ∧ Cond.initialized "java/lang/Math" ∈ TB ∧ Cond.code Lib.Math.min.name Lib.Math.min.code 2 (some .int) ∈ TB) (hw : Cond.methodLink Y.1.cls idx Lib.Math.min.name ∈ TB) (hrm : (st.map fun v => v.category).sum ≤ 8) (hd : decode Y.2.1 pc = .ok (.invokestatic idx, 3)) (kk : V l g w Y (pc + 3) L (.int (imin x y) :: st) M r M2) : V l g w Y pc L (.int y :: .int x :: st) M r M2 := by
  intro p e s m args below meth c H locs ls hx hb hml hr hlk ho ht hE hP hS hl
  exact va_mmin hx hb (hml.trans hl.1.symm) ho (ht _ hw) (ht _ hk.1) (ht _ hk.2.1) (ht _ hk.2.2) hd0 (by simp only [rmD]; omega) (Nat.zero_le _) (Nat.zero_le _) hd (kk _ _ _ _ _ _ _ _ _ _ _ hx hb hml hr hlk ho ht hE hP hS hl)
theorem V_mabs {idx : Nat} {x : Int32} (hd0 : 1 ≤ Y.2.2.2.2) (hk : Cond.static Lib.Math.abs.name ∈ TB ∧ Cond.initialized "java/lang/Math" ∈ TB ∧ Cond.code Lib.Math.abs.name Lib.Math.abs.code 1 (some .int) ∈ TB) (hw : Cond.methodLink Y.1.cls idx Lib.Math.abs.name ∈ TB) (hrm : (st.map fun v => v.category).sum ≤ 8) (hd : decode Y.2.1 pc = .ok (.invokestatic idx, 3)) (kk : V l g w Y (pc + 3) L (.int (iabs x) :: st) M r M2) : V l g w Y pc L (.int x :: st) M r M2 := by
  intro p e s m args below meth c H locs ls hx hb hml hr hlk ho ht hE hP hS hl
  exact va_mabs hx hb (hml.trans hl.1.symm) ho (ht _ hw) (ht _ hk.1) (ht _ hk.2.1) (ht _ hk.2.2) hd0 (by simp only [rmD]; omega) (Nat.zero_le _) (Nat.zero_le _) hd (kk _ _ _ _ _ _ _ _ _ _ _ hx hb hml hr hlk ho ht hE hP hS hl)
theorem V_mmaxl {idx : Nat} {x y : Int64} (hd0 : 1 ≤ Y.2.2.2.2) (hk : Cond.static Lib.MathLoose.max_long.x ∈ TB ∧ Cond.initialized "java/lang/Math" ∈ TB ∧ Cond.code Lib.MathLoose.max_long.x Lib.MathLoose.max_long.code 4 (some .long) ∈ TB) (hw : Cond.methodLink Y.1.cls idx Lib.MathLoose.max_long.x ∈ TB) (hrm : (st.map fun v => v.category).sum ≤ 8) (hd : decode Y.2.1 pc = .ok (.invokestatic idx, 3)) (kk : V l g w Y (pc + 3) L (.long (lmax x y) :: st) M r M2) : V l g w Y pc L (.long y :: .long x :: st) M r M2 := by
  intro p e s m args below meth c H locs ls hx hb hml hr hlk ho ht hE hP hS hl
  exact va_mmax_long hx hb (hml.trans hl.1.symm) ho (ht _ hw) (ht _ hk.1) (ht _ hk.2.1) (ht _ hk.2.2) hd0 (by simp only [rmD]; omega) (Nat.zero_le _) (Nat.zero_le _) hd (kk _ _ _ _ _ _ _ _ _ _ _ hx hb hml hr hlk ho ht hE hP hS hl)
theorem V_mminl {idx : Nat} {x y : Int64} (hd0 : 1 ≤ Y.2.2.2.2) (hk : Cond.static Lib.MathLoose.min_long.x ∈ TB ∧ Cond.initialized "java/lang/Math" ∈ TB ∧ Cond.code Lib.MathLoose.min_long.x Lib.MathLoose.min_long.code 4 (some .long) ∈ TB) (hw : Cond.methodLink Y.1.cls idx Lib.MathLoose.min_long.x ∈ TB) (hrm : (st.map fun v => v.category).sum ≤ 8) (hd : decode Y.2.1 pc = .ok (.invokestatic idx, 3)) (kk : V l g w Y (pc + 3) L (.long (lmin x y) :: st) M r M2) : V l g w Y pc L (.long y :: .long x :: st) M r M2 := by
  intro p e s m args below meth c H locs ls hx hb hml hr hlk ho ht hE hP hS hl
  exact va_mmin_long hx hb (hml.trans hl.1.symm) ho (ht _ hw) (ht _ hk.1) (ht _ hk.2.1) (ht _ hk.2.2) hd0 (by simp only [rmD]; omega) (Nat.zero_le _) (Nat.zero_le _) hd (kk _ _ _ _ _ _ _ _ _ _ _ hx hb hml hr hlk ho ht hE hP hS hl)
/-- arraycopy of ints: all three numbers not negative, both rows long enough -/
def cpyb (sp dp n : Int32) (n0 n1 : Nat) : Bool := decide (0 ≤ sp.toInt ∧ 0 ≤ dp.toInt ∧ 0 ≤ n.toInt ∧ ix sp + ix n ≤ n0 ∧ ix dp + ix n ≤ n1)
theorem V_copy {idx a0 a1 n0 n1 : Nat} {sp dp n : Int32} (hd0 : 1 ≤ Y.2.2.2.2) (hk : Cond.native arraycopyName ∈ TB ∧ Cond.static arraycopyName ∈ TB ∧ Cond.initialized "java/lang/System" ∈ TB) (hw : Cond.methodLink Y.1.cls idx arraycopyName ∈ TB) (hrm : (st.map fun v => v.category).sum ≤ 8) (h0 : w.2.1[a0]? = some (0, n0)) (h1 : w.2.1[a1]? = some (0, n1)) (hb0 : cpyb sp dp n n0 n1 = true) (hd : decode Y.2.1 pc = .ok (.invokestatic idx, 3)) (kk : V l g w Y (pc + 3) L st (mcpy M a0 (ix sp) a1 (ix dp) (ix n)) r M2) : V l g w Y pc L (.int n :: .int dp :: .ref (w.1 + a1) :: .int sp :: .ref (w.1 + a0) :: st) M r M2 := by
  intro p e s m args below meth c H locs ls hx hb hml hr hlk ho ht hE hP hS hl
  have hB := of_decide_eq_true hb0
  have nn : ∀ z : Int32, 0 ≤ z.toInt → ¬ z < 0 := fun z hz q => by
    have := Int32.lt_iff_toInt_lt.mp q
    rw [Int32.toInt_zero] at this
    omega
  refine va_copyi (tys := gtys g) (ty := .int) hx hb (hml.trans hl.1.symm) ho (ht _ hw) (ht _ hk.1) (ht _ hk.2.1) (ht _ hk.2.2) hE.1.1 hP wws_D hS a0 a1 0 0 (wws_get h0) (wws_get h1) rfl rfl rfl (nn _ hB.1) (nn _ hB.2.1) (nn _ hB.2.2.1) hB.2.2.2.1 hB.2.2.2.2 (fun i _ => rfl) hd0 ?_ hd (fun H1 locs1 hP1 _ hS1 => ?_)
  · have : nativeFrameWords "java/lang/System" "arraycopy" 5 = 7 := by decide
    rw [this]
    simp only [rmD]
    omega
  · have e1 := wws_cpy (g := g) (w := w) (M := M) (a := a0) h1 (ix sp) (ix dp) (ix n)
    have hP1 : va_P (g.1, g.2.1) vwCl ((wws g w M).set a1 (w.1 + a1, .inl (g.2.2.1, n1, .inl (va_cpy (M a0) (M a1) (ix sp) (ix dp) (ix n))))) H1 := hP1
    rw [e1] at hP1
    exact kk _ _ _ _ _ _ _ _ _ _ _ hx hb hml hr hlk ho ht hE hP1 hS1 hl
/-! switches -/
def tswb (q lo hi : Int) (offs : Array Int) (c : Int32) (tgt : Nat) : Bool := decide (¬ c.toInt < lo) && decide (¬ hi < c.toInt) && match offs[(c.toInt - lo).toNat]? with
  | some o => decide (q + o = (tgt : Int))
  | none => false
theorem V_tsw {dflt lo hi : Int} {offs : Array Int} {len : Nat} {x : Int32} (c : Int32) {tgt : Nat} (hc : x = c) (hd : decode Y.2.1 pc = .ok (.tableswitch dflt lo hi offs, len)) (hb0 : tswb pc lo hi offs c tgt = true) (kk : V l g w Y tgt L st M r M2) : V l g w Y pc L (.int x :: st) M r M2 := by
  intro p e s m args below meth c' H locs ls hx hb hml hr hlk ho ht hE hP hS hl
  subst hc
  unfold tswb at hb0
  simp only [Bool.and_eq_true, decide_eq_true_eq] at hb0
  obtain ⟨⟨h1, h2⟩, h3⟩ := hb0
  cases ho2 : offs[(x.toInt - lo).toNat]? with
  | none => rw [ho2] at h3; cases h3
  | some o =>
    rw [ho2] at h3
    exact lv_tableIn hx hb hd h1 h2 ho2 (of_decide_eq_true h3) (kk _ _ _ _ _ _ _ _ _ _ _ hx hb hml hr hlk ho ht hE hP hS hl)
theorem tsw_out {lo hi : Int} {x : Int32} (cs : List Int32) (hcs : ∀ j : Nat, j < (hi + 1 - lo).toNat → Int32.ofInt (lo + j) ∈ cs) (hx : ∀ c ∈ cs, ¬ x = c) : x.toInt < lo ∨ hi < x.toInt := by
  by_cases h1 : x.toInt < lo
  · exact Or.inl h1
  · by_cases h2 : hi < x.toInt
    · exact Or.inr h2
    · exfalso
      have h3 := hcs (x.toInt - lo).toNat (by omega)
      have h4 : lo + ((x.toInt - lo).toNat : Int) = x.toInt := by omega
      rw [h4, Int32.ofInt_toInt] at h3
      exact hx _ h3 rfl
theorem V_tswO {dflt lo hi : Int} {offs : Array Int} {len : Nat} {x : Int32} {tgt : Nat} (cs : List Int32) (hx0 : ∀ c ∈ cs, ¬ x = c) (hd : decode Y.2.1 pc = .ok (.tableswitch dflt lo hi offs, len)) (hcs : ∀ j : Nat, j < (hi + 1 - lo).toNat → Int32.ofInt (lo + j) ∈ cs) (htg : (pc : Int) + dflt = (tgt : Int)) (kk : V l g w Y tgt L st M r M2) : V l g w Y pc L (.int x :: st) M r M2 := by
  intro p e s m args below meth c H locs ls hx hb hml hr hlk ho ht hE hP hS hl
  exact lv_tableOut hx hb hd (tsw_out cs hcs hx0) htg (kk _ _ _ _ _ _ _ _ _ _ _ hx hb hml hr hlk ho ht hE hP hS hl)
theorem V_lsw {dflt : Int} {ps : Array (Int × Int)} {len : Nat} {x : Int32} (c : Int32) {tgt : Nat} (hc : x = c) (hd : decode Y.2.1 pc = .ok (.lookupswitch dflt ps, len)) (hp : (ps.toList.zip (ps.toList.drop 1)).all (fun (a, next) => a.1 < next.1) = true) (htg : (pc : Int) + Op.lookupswitch.offset ps.toList dflt c.toInt = (tgt : Int)) (kk : V l g w Y tgt L st M r M2) : V l g w Y pc L (.int x :: st) M r M2 := by
  intro p e s m args below meth c' H locs ls hx hb hml hr hlk ho ht hE hP hS hl
  subst hc
  exact lv_lookup hx hb hd hp rfl htg (kk _ _ _ _ _ _ _ _ _ _ _ hx hb hml hr hlk ho ht hE hP hS hl)
theorem lsw_out {x : Int32} (dflt : Int) (ps : List (Int × Int)) (cs : List Int32) (hcs : cs.map Int32.toInt = ps.map Prod.fst) (hx : ∀ c ∈ cs, ¬ x = c) : Op.lookupswitch.offset ps dflt x.toInt = dflt := by
  induction ps generalizing cs with
  | nil => rfl
  | cons a t ih =>
    cases cs with
    | nil => simp at hcs
    | cons c cs =>
      simp only [List.map_cons, List.cons.injEq] at hcs
      obtain ⟨a1, a2⟩ := a
      rw [Op.lookupswitch.offset_cons, if_neg, ih cs hcs.2 (fun c hc => hx c (List.mem_cons_of_mem _ hc))]
      intro q
      refine hx c List.mem_cons_self (Int32.toInt_inj.mp ?_)
      rw [hcs.1, ← q]
theorem V_lswO {dflt : Int} {ps : Array (Int × Int)} {len : Nat} {x : Int32} {tgt : Nat} (cs : List Int32) (hx0 : ∀ c ∈ cs, ¬ x = c) (hd : decode Y.2.1 pc = .ok (.lookupswitch dflt ps, len)) (hp : (ps.toList.zip (ps.toList.drop 1)).all (fun (a, next) => a.1 < next.1) = true) (hcs : cs.map Int32.toInt = ps.toList.map Prod.fst) (htg : (pc : Int) + dflt = (tgt : Int)) (kk : V l g w Y tgt L st M r M2) : V l g w Y pc L (.int x :: st) M r M2 := by
  intro p e s m args below meth c H locs ls hx hb hml hr hlk ho ht hE hP hS hl
  exact lv_lookup hx hb hd hp (lsw_out dflt ps.toList cs hcs hx0) htg (kk _ _ _ _ _ _ _ _ _ _ _ hx hb hml hr hlk ho ht hE hP hS hl)
/-- a guard, a branch, a call in a printed function -/
theorem g_if {α : Type} {c : Prop} {_ : Decidable c} {F : Option α} {z : α} (hf : (if c then F else none) = some z) : c ∧ F = some z := by
  by_cases h : c
  · rw [if_pos h] at hf; exact ⟨h, hf⟩
  · rw [if_neg h] at hf; cases hf
theorem g_ifn {α : Type} {c : Prop} {_ : Decidable c} {F : Option α} {z : α} (hf : (if c then none else F) = some z) : ¬ c ∧ F = some z := by
  by_cases h : c
  · rw [if_pos h] at hf; cases hf
  · rw [if_neg h] at hf; exact ⟨h, hf⟩
theorem g_bind {α β : Type} {F : Option α} {G : α → Option β} {z : β} (hf : F.bind G = some z) : ∃ q, F = some q ∧ G q = some z := by
  cases F with
  | none => cases hf
  | some q => exact ⟨q, rfl, hf⟩
end VM
