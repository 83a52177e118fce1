/-! THE ENTRY: what the tables and the start give -/
theorem lt_in {b : Nat} {s : State} (hts : ∀ w ∈ lw_tbl, w.before #[Value.ref b] s = true) {w : Cond} (i : Nat) (h : lw_tbl[i]? = some w) : w.before #[Value.ref b] s = true := hts w (List.mem_of_getElem? h)
theorem tb_in {b : Nat} {s : State} (hts : ∀ w ∈ lw_tbl, w.before #[Value.ref b] s = true) : ∀ w ∈ TB, w.before #[Value.ref b] s = true := fun w hw => hts w (List.mem_filter.mp hw).1
theorem kn_X0 {b : Nat} {s : State} (ht : ∀ w ∈ TB, w.before #[Value.ref b] s = true) : ∃ r : ClassId × (Nat → Nat), u_Kn s RX0 TX0 13 r.1 r.2 := by
  obtain ⟨a, c, h⟩ := u_known (C := RX0) (T := TX0) (N := 13) ht inX0 (ht _ tw_269)
  exact ⟨(a, c), h⟩
theorem kn_X1 {b : Nat} {s : State} (ht : ∀ w ∈ TB, w.before #[Value.ref b] s = true) : ∃ r : ClassId × (Nat → Nat), u_Kn s RX1 TX1 5 r.1 r.2 := by
  obtain ⟨a, c, h⟩ := u_known (C := RX1) (T := TX1) (N := 5) ht inX1 (ht _ tw_146)
  exact ⟨(a, c), h⟩
theorem kn_X2 {b : Nat} {s : State} (ht : ∀ w ∈ TB, w.before #[Value.ref b] s = true) : ∃ r : ClassId × (Nat → Nat), u_Kn s RX2 TX2 7 r.1 r.2 := by
  obtain ⟨a, c, h⟩ := u_known (C := RX2) (T := TX2) (N := 7) ht inX2 (ht _ tw_276)
  exact ⟨(a, c), h⟩
theorem kn_X3 {b : Nat} {s : State} (ht : ∀ w ∈ TB, w.before #[Value.ref b] s = true) : ∃ r : ClassId × (Nat → Nat), u_Kn s RX3 TX3 7 r.1 r.2 := by
  obtain ⟨a, c, h⟩ := u_known (C := RX3) (T := TX3) (N := 7) ht inX3 (ht _ tw_172)
  exact ⟨(a, c), h⟩
theorem kn_X4 {b : Nat} {s : State} (ht : ∀ w ∈ TB, w.before #[Value.ref b] s = true) : ∃ r : ClassId × (Nat → Nat), u_Kn s RX4 TX4 13 r.1 r.2 := by
  obtain ⟨a, c, h⟩ := u_known (C := RX4) (T := TX4) (N := 13) ht inX4 (ht _ tw_92)
  exact ⟨(a, c), h⟩
theorem kn_X5 {b : Nat} {s : State} (ht : ∀ w ∈ TB, w.before #[Value.ref b] s = true) : ∃ r : ClassId × (Nat → Nat), u_Kn s RX5 TX5 8 r.1 r.2 := by
  obtain ⟨a, c, h⟩ := u_known (C := RX5) (T := TX5) (N := 8) ht inX5 (ht _ tw_203)
  exact ⟨(a, c), h⟩
theorem kn_X6 {b : Nat} {s : State} (ht : ∀ w ∈ TB, w.before #[Value.ref b] s = true) : ∃ r : ClassId × (Nat → Nat), u_Kn s RX6 TX6 3 r.1 r.2 := by
  obtain ⟨a, c, h⟩ := u_known (C := RX6) (T := TX6) (N := 3) ht inX6 (ht _ tw_387)
  exact ⟨(a, c), h⟩
theorem kn_X7 {b : Nat} {s : State} (ht : ∀ w ∈ TB, w.before #[Value.ref b] s = true) : ∃ r : ClassId × (Nat → Nat), u_Kn s RX7 TX7 4 r.1 r.2 := by
  obtain ⟨a, c, h⟩ := u_known (C := RX7) (T := TX7) (N := 4) ht inX7 (ht _ tw_405)
  exact ⟨(a, c), h⟩
theorem kn_X8 {b : Nat} {s : State} (ht : ∀ w ∈ TB, w.before #[Value.ref b] s = true) : ∃ r : ClassId × (Nat → Nat), u_Kn s RX8 TX8 5 r.1 r.2 := by
  obtain ⟨a, c, h⟩ := u_known (C := RX8) (T := TX8) (N := 5) ht inX8 (ht _ tw_242)
  exact ⟨(a, c), h⟩
theorem kn_X9 {b : Nat} {s : State} (ht : ∀ w ∈ TB, w.before #[Value.ref b] s = true) : ∃ r : ClassId × (Nat → Nat), u_Kn s RX9 TX9 12 r.1 r.2 := by
  obtain ⟨a, c, h⟩ := u_known (C := RX9) (T := TX9) (N := 12) ht inX9 (ht _ tw_84)
  exact ⟨(a, c), h⟩
theorem kn_X10 {b : Nat} {s : State} (ht : ∀ w ∈ TB, w.before #[Value.ref b] s = true) : ∃ r : ClassId × (Nat → Nat), u_Kn s RX10 TX10 47 r.1 r.2 := by
  obtain ⟨a, c, h⟩ := u_known (C := RX10) (T := TX10) (N := 47) ht inX10 (ht _ tw_1065)
  exact ⟨(a, c), h⟩
theorem kn_all {b : Nat} {s : State} (ht : ∀ w ∈ TB, w.before #[Value.ref b] s = true) : ∃ (f : Nat → ClassId) (h : Nat → Nat → Nat), ∀ (c : Nat) (q : vw_C), vwCl[c]? = some q → u_Kn s q.1 q.2.1 q.2.2 (f c) (h c) := by
  have h0 : ∀ c : Nat, ∃ r : ClassId × (Nat → Nat), ∀ q : vw_C, vwCl[c]? = some q → u_Kn s q.1 q.2.1 q.2.2 r.1 r.2 := by
    intro c
    match c with
    | 0 => obtain ⟨r, h⟩ := kn_X0 ht; exact ⟨r, fun q hq => by cases hq; exact h⟩
    | 1 => obtain ⟨r, h⟩ := kn_X1 ht; exact ⟨r, fun q hq => by cases hq; exact h⟩
    | 2 => obtain ⟨r, h⟩ := kn_X2 ht; exact ⟨r, fun q hq => by cases hq; exact h⟩
    | 3 => obtain ⟨r, h⟩ := kn_X3 ht; exact ⟨r, fun q hq => by cases hq; exact h⟩
    | 4 => obtain ⟨r, h⟩ := kn_X4 ht; exact ⟨r, fun q hq => by cases hq; exact h⟩
    | 5 => obtain ⟨r, h⟩ := kn_X5 ht; exact ⟨r, fun q hq => by cases hq; exact h⟩
    | 6 => obtain ⟨r, h⟩ := kn_X6 ht; exact ⟨r, fun q hq => by cases hq; exact h⟩
    | 7 => obtain ⟨r, h⟩ := kn_X7 ht; exact ⟨r, fun q hq => by cases hq; exact h⟩
    | 8 => obtain ⟨r, h⟩ := kn_X8 ht; exact ⟨r, fun q hq => by cases hq; exact h⟩
    | 9 => obtain ⟨r, h⟩ := kn_X9 ht; exact ⟨r, fun q hq => by cases hq; exact h⟩
    | 10 => obtain ⟨r, h⟩ := kn_X10 ht; exact ⟨r, fun q hq => by cases hq; exact h⟩
    | c + 11 => exact ⟨(0, fun _ => 0), fun q hq => by cases hq⟩
  obtain ⟨r, hr⟩ := Classical.axiomOfChoice h0
  exact ⟨fun c => (r c).1, fun c => (r c).2, fun c q hq => hr c q hq⟩
theorem ao_cls {C : String} {s : State} (h : va_AO C s) : ∃ cA : ClassId, ArrOfT s cA (.object C) ∧ va_RA s cA (.object C) := by
  obtain ⟨comp, c, k, h1, _, h3, h4, h5⟩ := Cond.arrayOver_spec h
  exact ⟨c, fun N z => ⟨(fun k h => by cases h), k, h3, comp, h4⟩, k, comp, h3, h4, h1, h5⟩
theorem ac_int {b : Nat} {s : State} (h : (Cond.arrayClass .int).before #[Value.ref b] s = true) : ∃ cA : ClassId, ArrOfT s cA .int ∧ va_RA s cA .int := by
  obtain ⟨c, k, comp, h1, h2, h3⟩ := Cond.arrayClass_spec h
  exact ⟨c, fun N z => ⟨(fun k h => by cases h), k, h2, comp, h3⟩, h1⟩
/-- what the Statement gives of the start -/
def gvL : List Cond := flatC (Jvm.Cond.and given_1 narrow_1)
def smT (i : Nat) : Term := Term.string "CoastThree$Reader" (strW.getD i (0, "")).1
theorem gv_ex : ∀ i, i < 6 → Cond.exactly (smT i) "java/lang/String" ∈ gvL := by decide +kernel
theorem gv_co : ∀ i, i < 6 → Cond.eq (.field (smT i) "java/lang/String" "coder" "B") (.int 0) ∈ gvL := by decide +kernel
theorem gv_ar : ∀ i, i < 6 → Cond.arrayOf (.field (smT i) "java/lang/String" "value" "[B") .byte ∈ gvL := by decide +kernel
theorem gv_le : ∀ i, i < 6 → Cond.eq (.length (.field (smT i) "java/lang/String" "value" "[B")) (.int (Int32.ofNat (strL.getD i 0))) ∈ gvL := by decide +kernel
theorem gv_el : ∀ i, i < 6 → ∀ j, j < strL.getD i 0 → Cond.eq (.elem (.field (smT i) "java/lang/String" "value" "[B") (.int (Int32.ofNat j))) (.int ((strB.getD i []).getD j 0)) ∈ gvL := by decide +kernel
theorem gv_ne : ∀ i, i < 6 → ∀ j, j < 6 → i ≠ j → Cond.not (Cond.eq (smT i) (smT j)) ∈ gvL ∨ Cond.not (Cond.eq (smT j) (smT i)) ∈ gvL := by decide +kernel
theorem gv_ab : ∀ j, j < 8 → Cond.eq (.elem (.static "CoastThree" "ABOVE" "[I") (.int (Int32.ofNat j))) (.int (aboveT j)) ∈ gvL := by decide +kernel
theorem str_ref : ∀ i, i < 6 → Cond.stringRef RX4 (strW.getD i (0, "")).1 (strW.getD i (0, "")).2 ∈ lw_tbl := by
  intro i hi
  match i, hi with
  | 0, _ => exact List.mem_of_getElem? (i := 610) (by decide +kernel)
  | 1, _ => exact List.mem_of_getElem? (i := 663) (by decide +kernel)
  | 2, _ => exact List.mem_of_getElem? (i := 664) (by decide +kernel)
  | 3, _ => exact List.mem_of_getElem? (i := 690) (by decide +kernel)
  | 4, _ => exact List.mem_of_getElem? (i := 691) (by decide +kernel)
  | 5, _ => exact List.mem_of_getElem? (i := 692) (by decide +kernel)
theorem entry {s : State} {b : Nat} (hts : ∀ w ∈ lw_tbl, w.before #[Value.ref b] s = true) (hgv : (Jvm.Cond.and given_1 narrow_1).before #[Value.ref b] s = true) : ∃ g : Gam, Evg g s ∧ Ehp g (fun q => s.heap.size ≤ q) s s.heap := by
  have ht := tb_in hts
  have hs : ∀ c ∈ gvL, c.before #[Value.ref b] s = true := flat_of_before _ hgv
  have hA : ∀ a : Nat, a < s.heap.size → ¬ (fun q => s.heap.size ≤ q) a := fun a h => Nat.not_le.mpr h
  obtain ⟨f, h, hk⟩ := kn_all ht
  obtain ⟨c0, a0, r0⟩ := ac_int (lt_in hts 144 (by decide +kernel))
  have ao2 : va_AO RX2 s := va_AO.of (lt_in hts 275 (by decide +kernel))
  have ao8 : va_AO RX8 s := va_AO.of (lt_in hts 241 (by decide +kernel))
  have ao6 : va_AO RX6 s := va_AO.of (lt_in hts 237 (by decide +kernel))
  have ao7 : va_AO RX7 s := va_AO.of (lt_in hts 239 (by decide +kernel))
  obtain ⟨c2, a2, r2⟩ := ao_cls ao2
  obtain ⟨c8, a8, r8⟩ := ao_cls ao8
  obtain ⟨c6, a6, r6⟩ := ao_cls ao6
  obtain ⟨c7, a7, r7⟩ := ao_cls ao7
  obtain ⟨t, ht1, hT⟩ := va_Tof (tm := Term.static "CoastThree" "ABOVE" "[I") (ty := .int) (N := 8) (f := fun j => .int (aboveT j)) (A := fun q => s.heap.size ≤ q) (by decide) (hs _ (by decide +kernel)) (va_eqt (z := Int32.ofNat 8) (hs _ (by decide +kernel))) (fun j hj => va_eqt (hs _ (gv_ab j hj))) hA
  obtain ⟨adK, adV, hS, hE⟩ := vk_Sof (N := 6) (tm := smT) (len := strL) (byt := strB) (A := fun q => s.heap.size ≤ q) (by decide) (fun i hi => hs _ (gv_ex i hi)) (fun i hi => hs _ (gv_co i hi)) (fun i hi => hs _ (gv_ar i hi)) (fun i hi => hs _ (gv_le i hi)) (fun i hi j hj => hs _ (gv_el i hi j hj)) (fun i j hi hj hij => (gv_ne i hi j hj hij).imp (hs _) (hs _)) hA
  refine ⟨(f, h, c0, fun e => if e = 2 then c2 else if e = 8 then c8 else if e = 6 then c6 else c7, t, adK, adV), ⟨⟨⟨hk, ?_⟩, ?_, ?_⟩, ?_⟩, va_Zref (lt_in hts 471 (by decide +kernel)) (lt_in hts 65 (by decide +kernel)) ht1 hA, hT, hS, va_Zof (lt_in hts 624 (by decide +kernel)) (lt_in hts 77 (by decide +kernel)) (va_eqi (hs _ (by decide +kernel))) hA, va_Zqof (lt_in hts 640 (by decide +kernel)) (lt_in hts 79 (by decide +kernel)) (hs _ (by decide +kernel)) hA⟩
  · intro k q hq
    match k, hq with
    | 0, hq => cases hq; exact ⟨a0, r0⟩
    | 1, hq => cases hq; exact ⟨a2, r2⟩
    | 2, hq => cases hq; exact ⟨a8, r8⟩
    | 3, hq => cases hq; exact ⟨a6, r6⟩
    | 4, hq => cases hq; exact ⟨a7, r7⟩
    | k + 5, hq => cases hq
  · intro q hq
    obtain ⟨w, hw, he⟩ := List.mem_filterMap.mp hq
    have hb := hts w hw
    split at he
    · cases he
      exact va_tabs (c := .methodLinkNest _ _ _ _) rfl rfl hb
    · cases he
  · intro i q hq
    have hi : i < 6 := (List.getElem?_eq_some_iff.mp hq).1
    have e : strW.getD i (0, "") = q := by rw [List.getD_eq_getElem?_getD, hq]; rfl
    have h1 := hts _ (str_ref i hi)
    have h2 := hE i hi
    unfold smT at h2
    rw [e] at h1 h2
    exact vk_R.of h1 h2
  · intro C hC
    rcases List.mem_cons.mp hC with rfl | hC
    · exact ao2
    rcases List.mem_cons.mp hC with rfl | hC
    · exact ao8
    rcases List.mem_cons.mp hC with rfl | hC
    · exact ao6
    rcases List.mem_cons.mp hC with rfl | hC
    · exact ao7
    cases hC
theorem Ehp.narrow {g : Gam} {A B : Nat → Prop} {U : State} {H : Heap} (h : Ehp g A U H) (hAB : ∀ q, B q → A q) : Ehp g B U H := ⟨h.1.narrow hAB, h.2.1.narrow hAB, h.2.2.1.narrow hAB, h.2.2.2.1.narrow hAB, h.2.2.2.2.narrow hAB⟩
