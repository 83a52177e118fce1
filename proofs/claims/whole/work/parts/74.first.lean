/-! THE START: the worlds that the constructors make, as worlds with a memory -/
def fsV : Option (Option Sv) → Int32
  | some (some (.inr v)) => v
  | _ => 0
def gM (cs : List Gc) : Mem := fun a k => match cs[a]? with
  | some (.inl (_, u)) => arF u k
  | some (.inr (.inl (_, fs))) => fsV fs[k]?
  | _ => 0
def arN : List (Nat × Nat) → Nat → Option Nat
  | [] => fun _ => none
  | q :: u => fun j => if j = q.1 then some q.2 else arN u j
theorem arR_N (b : Nat) : ∀ (u : List (Nat × Nat)) (j : Nat), arR b u j = (arN u j).map (b + ·) := by
  intro u
  induction u with
  | nil => intro j; rfl
  | cons q u ih =>
    intro j
    show (if j = q.1 then some (b + q.2) else arR b u j) = Option.map (b + ·) (if j = q.1 then some q.2 else arN u j)
    by_cases h : j = q.1
    · rw [if_pos h, if_pos h]; rfl
    · rw [if_neg h, if_neg h]; exact ih j
def chkF (rf : Rfs) (a ci : Nat) (fs : List (Option Sv)) (k : Nat) : Bool := match ft ci k with
  | some _ => decide (fs[k]? = some (some (.inl (rf a k))))
  | none => match fs[k]? with
    | some (some (.inr _)) => true
    | _ => false
def chkC (rf : Rfs) (a : Nat) (c : Gc) (sp : Nat × Nat) : Bool := match c with
  | .inl (n, _) => decide (sp = (0, n))
  | .inr (.inl (ci, fs)) => decide (sp = (1, ci)) && decide (fs.length = nf ci) && (List.range (nf ci)).all (chkF rf a ci fs)
  | .inr (.inr (e, n, u)) => decide (sp = (e + 2, n)) && (List.range n).all fun i => decide (arN u i = some (rf a i))
def chkG (sh : Shp) (rf : Rfs) (cs : List Gc) : Bool := decide (cs.length = sh.length) && (List.range sh.length).all fun a => match cs[a]? with
  | some c => chkC rf a c (sh.getD a (0, 0))
  | none => false
theorem gws_wws {g : Gam} {b : Nat} {sh : Shp} {rf : Rfs} {cs : List Gc} (h : chkG sh rf cs = true) {H : Heap} (hP : va_P (g.1, g.2.1) vwCl (gws g b cs) H) : va_P (g.1, g.2.1) vwCl (wws g (b, sh, rf) (gM cs)) H := by
  intro a q hq
  have hlen : a < sh.length := by
    have := (List.getElem?_eq_some_iff.mp hq).1
    rw [wws, List.length_map, List.length_range] at this
    exact this
  have hsh : sh[a]? = some sh[a] := List.getElem?_eq_getElem hlen
  have hgd : sh.getD a (0, 0) = sh[a] := by rw [List.getD_eq_getElem?_getD, hsh]; rfl
  have h2 := List.all_eq_true.mp (Bool.and_eq_true_iff.mp h).2 a (List.mem_range.mpr hlen)
  rw [hgd] at h2
  have hq2 := wws_get (g := g) (w := (b, sh, rf)) (M := gM cs) hsh
  rw [hq] at hq2
  cases hq2
  generalize hsp : sh[a] = sp at h2
  split at h2
  · rename_i c hc
    have h3 := hP _ _ (gws_get (g := g) (b := b) hc)
    unfold chkC at h2
    split at h2
    · rename_i n u
      have e := of_decide_eq_true h2
      subst e
      have e2 : gM cs a = arF u := by funext k; unfold gM; rw [hc]
      show H[b + a]? = some (vp_cell g.2.2.1 (n, .inl (gM cs a)))
      rw [e2]
      exact h3
    · rename_i ci fs
      obtain ⟨h4, h6⟩ := Bool.and_eq_true_iff.mp h2
      obtain ⟨h4, h5⟩ := Bool.and_eq_true_iff.mp h4
      have e := of_decide_eq_true h4
      subst e
      have hl := of_decide_eq_true h5
      have e2 : fs.map (fvV b) = (List.range (nf ci)).map (wval b rf (gM cs) a ci) := by
        apply List.ext_getElem?
        intro k
        by_cases hk : k < nf ci
        · have h7 := List.all_eq_true.mp h6 k (List.mem_range.mpr hk)
          rw [List.getElem?_map, List.getElem?_map, List.getElem?_range hk]
          unfold chkF at h7
          split at h7
          · rename_i sp2 hft
            have h8 := of_decide_eq_true h7
            rw [h8]
            show some (Value.ref (b + rf a k)) = some (wval b rf (gM cs) a ci k)
            unfold wval
            rw [hft]
          · rename_i hft
            split at h7
            · rename_i v hv
              rw [hv]
              show some (Value.int v) = some (wval b rf (gM cs) a ci k)
              unfold wval
              rw [hft]
              have h9 : gM cs a k = v := by
                unfold gM
                rw [hc]
                show fsV fs[k]? = v
                rw [hv]
                rfl
              show some (Value.int v) = some (Value.int (gM cs a k))
              rw [h9]
            · cases h7
        · rw [List.getElem?_eq_none (by rw [List.length_map]; omega), List.getElem?_eq_none (by rw [List.length_map, List.length_range]; omega)]
      have h3 : va_at (g.1, g.2.1) vwCl (b + a, .inr (ci, fs.map (fvV b))) H := h3
      rw [e2] at h3
      exact h3
    · rename_i e n u
      obtain ⟨h4, h5⟩ := Bool.and_eq_true_iff.mp h2
      have e1 := of_decide_eq_true h4
      subst e1
      have h3 : H[b + a]? = some (vp_cell (g.2.2.2.1 e) (n, .inr (.inr (.inr (.inr (arR b u)))))) := h3
      show H[b + a]? = some (vp_cell (g.2.2.2.1 e) (n, .inr (.inr (.inr (.inr (fun i => some (b + rf a i)))))))
      rw [h3, vp_cell_q, vp_cell_q]
      unfold arrV
      congr 2
      apply Array.ext
      · simp
      · intro i hi1 hi2
        have hi : i < n := by simpa using hi1
        have h6 := of_decide_eq_true (List.all_eq_true.mp h5 i (List.mem_range.mpr hi))
        rw [Array.getElem_ofFn, Array.getElem_ofFn]
        show va_rf (arR b u i) = va_rf (some (b + rf a i))
        rw [arR_N, h6]
        rfl
  · cases h2
theorem chC : chkG shC rfC csC = true := by decide +kernel
theorem chM : chkG shM rfM csM = true := by decide +kernel
def M0 : Mem := gM csC
def N0 : Mem := gM csM
/-- what the start holds -/
def chk0 : Bool := (match gev 3 9 [.inl 0] (cs0 9), gev 3 10 [.inl 0] (cs0 10) with
  | some (c, _), some (d, _) => (gM c 48 9 == 0) && (gM d 1 0 == 0) && (gM d 1 3 == 0) && (gM c 51 0 == 0) && (gM c 51 1 == 0) && (gM c 51 2 == 0) && (gM c 48 10 == 0) && (gM d 1 1 == 0) && (gM c 48 11 == 0) && (gM d 1 2 == 0) && (List.range 3).all (fun v => (gM d 1 (10 + 3 * v) == 0) && (gM c 53 v == 100)) && (List.range 9).all (fun k => (gM c 55 k == -1000000005) && (gM d 1 (20 + k) == -1)) && (gM c 48 12 == 1) && (gM d 1 4 == 1) && (gM c 0 11 == 0) && (gM d 0 3 == 0) && (gM c 1 1 == 0) && (gM d 0 13 == 0) && (List.range 4).all (fun k => (gM c (112 + 2 * k) 0 == -1) && (gM d 4 k == -1) && (gM c (112 + 2 * k) 1 == 0) && (gM d 5 k == 0) && (List.range 24).all fun i => (gM c (113 + 2 * k) i == 0) && (gM d 6 (24 * k + i) == 0)) && (List.range 5).all (fun k => (gM c (120 + 3 * k) 0 == 0) && (gM d 7 k == 0)) && (gM c 0 10 == 0) && (gM d 0 45 == 0)
  | _, _ => false)
theorem chk0_ok : chk0 = true := by decide +kernel
theorem rel0 : Rel M0 N0 := by
  have h := chk0_ok
  unfold chk0 at h
  rw [csC_ev, csM_ev] at h
  change (_ : Bool) = true at h
  simp only [Bool.and_eq_true, beq_iff_eq, List.all_eq_true, List.mem_range] at h
  obtain ⟨⟨⟨⟨⟨⟨⟨⟨⟨⟨⟨⟨⟨⟨⟨⟨⟨⟨⟨⟨⟨a1, a2⟩, a3⟩, a4⟩, a5⟩, a6⟩, a7⟩, a8⟩, a9⟩, a10⟩, a11⟩, a12⟩, a13⟩, a14⟩, a15⟩, a16⟩, a17⟩, a18⟩, a19⟩, a20⟩, a21⟩, a22⟩ := h
  refine ⟨⟨⟨0, a1, ⟨by decide, a2, fun i hi => absurd hi (by omega)⟩, 0, fun _ => 0, a3, by decide, fun k hk => absurd hk (by omega), fun k k' hk => absurd hk (by omega), fun v hv => ?_, fun k hk => absurd hk (by omega)⟩, ⟨0, a7, by decide, a8, fun j hj => absurd hj (by omega)⟩, ⟨0, a9, by decide, a10, fun p hp => absurd hp (by omega)⟩, fun v hv => Or.inr (a11 v hv), fun k hk => ?_, a13.trans a14.symm⟩, ⟨a15.trans a16.symm, Or.inl a16⟩, ⟨0, by decide, a17, a18, fun i hi => absurd hi (by omega)⟩, fun k hk => ?_, fun k hk => ?_, ⟨0, by decide, a21, a22, fun i hi => absurd hi (by omega)⟩⟩
  · refine ⟨?_, by show (0 : Nat) ≤ 5; decide⟩
    match v, hv with
    | 0, _ => exact a4
    | 1, _ => exact a5
    | 2, _ => exact a6
  · obtain ⟨b1, b2⟩ := a12 k hk
    show M0 55 k = uc (N0 1 (20 + k)) ∧ -1 ≤ (N0 1 (20 + k)).toInt ∧ (N0 1 (20 + k)).toInt ≤ 999
    unfold M0 N0
    rw [b1, b2]
    decide
  · obtain ⟨⟨⟨⟨b1, b2⟩, b3⟩, b4⟩, b5⟩ := a19 k hk
    refine ⟨b1.trans b2.symm, b3.trans b4.symm, ?_, ⟨0, by decide, b4⟩, fun i hi => (b5 i hi).1.trans (b5 i hi).2.symm⟩
    show -1 ≤ (gM csM 4 k).toInt ∧ (gM csM 4 k).toInt ≤ 1
    rw [b2]
    decide
  · obtain ⟨b1, b2⟩ := a20 k hk
    have e : N0 7 k = 0 := b2
    refine ⟨b1.trans b2.symm, by rw [e]; decide, fun h => ?_, fun h => ?_, fun h => ?_⟩ <;> (rw [e] at h; exact absurd h (by decide))
