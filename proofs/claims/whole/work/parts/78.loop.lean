/-! THE LAW: its loop, its beginning -/
section LL
variable {p : Program} {l : Launch} {e : Env} {s : State} {m : MethodId} {below : List Frame} {meth : Method} {c : Code} {b L : Nat} {xs : Nat → Int32} {g : Gam} {M N : Mem} {i : Nat}
theorem L_end (X : Lc p s m meth c b L xs g) {Ls : List (Nat × Value)} : LW p l e s m below meth c b g M N 1686 Ls [] := by
  intro H locs ls hC hM hS hl
  refine lv_iconst (v := 1) X.1.1 X.1.2.1 dL_law_1686 rfl ?_
  exact W.widen (k := 600000) (n := 7302250) (Nat.le_of_ble_eq_true rfl) (Nat.le_of_ble_eq_true rfl) (va_forget (fun q hq => hS.2.2 q hq) (lw_ret X.1.1 X.1.2.1 X.1.2.2.1 X.1.2.2.2.2.2.2.2.2.1 dL_law_1687))
theorem L_head (X : Lc p s m meth c b L xs g) (hi : i ≤ 400) (kk : i + 6 ≤ L → LW p l e s m below meth c b g M N 27 (Lv b s.heap.size i) []) : LW p l e s m below meth c b g M N 18 (Lv b s.heap.size i) [] := by
  refine L_iload (pc := 18) X 3 0 rfl dL_law_18 (L_aload (pc := 19) X 0 3 rfl dL_law_19 ?_)
  intro H locs ls hC hM hS hl
  have hL := X.2.2.2
  have hbl := X.1.2.2.2.2.2.2.2.1
  refine va_slen X.1.1 X.1.2.1 X.1.2.2.2.2.2.2.1 hbl (Nat.not_le.mpr hbl) hS dL_law_20 ?_
  refine lv_bipush (v := 6) X.1.1 X.1.2.1 dL_law_21 (by decide +kernel) ?_
  refine lv_isub X.1.1 X.1.2.1 dL_law_23 ?_
  have h6 : (Int32.ofNat L - 6 : Int32).toInt = (L : Int) - 6 := by
    have h1 : (Int32.ofNat L).toInt = (L : Int) := nI_toInt (by omega)
    rw [Int32.toInt_sub, h1]
    show ((L : Int) - 6).bmod (2 ^ 32) = _
    exact Int.bmod_eq_of_le (by omega) (by omega)
  refine lv_icmp_gt (tgt := 1686) X.1.1 X.1.2.1 dL_law_24 (by decide) (fun _ => L_end X H locs ls hC hM hS hl) (fun q => ?_)
  refine kk ?_ H locs ls hC hM hS hl
  rw [i_lt, h6, i_nI (by omega)] at q
  omega
theorem L_step6 (X : Lc p s m meth c b L xs g) (kk : LW p l e s m below meth c b g M N 18 (Lv b s.heap.size (i + 6)) []) : LW p l e s m below meth c b g M N 1680 (Lv b s.heap.size i) [] := by
  intro H locs ls hC hM hS hl
  refine lv_iinc (k := 0) (x := nI i) (v := nI (i + 6)) (lv' := Lv b s.heap.size (i + 6)) X.1.1 X.1.2.1 dL_law_1680 hl rfl ?_ (by decide) rfl (fun ls hl => ?_)
  · rw [← nI_add]
    rfl
  · exact lv_goto (tgt := 18) X.1.1 X.1.2.1 dL_law_1683 (by decide) (kk H locs ls hC hM hS hl)
theorem L_loop (X : Lc p s m meth c b L xs g) : ∀ (n i : Nat) (M N : Mem), L ≤ i + n → i ≤ 400 → Rel M N → LW p l e s m below meth c b g M N 18 (Lv b s.heap.size i) [] := by
  intro n
  induction n with
  | zero =>
    intro i M N h1 h2 hR
    exact L_head X h2 (fun q => absurd q (by omega))
  | succ n ih =>
    intro i M N h1 h2 hR
    refine L_head X h2 (fun q => ?_)
    have hL := X.2.2.2
    refine L_aload (pc := 27) X 0 3 rfl dL_law_27 (L_iload (pc := 28) X 3 0 rfl dL_law_28 (L_sld (pc := 29) X (by omega) dL_law_29 ?_))
    intro H locs ls hC hM hS hl
    refine lv_bipush (v := 63) X.1.1 X.1.2.1 dL_law_30 (by decide +kernel) ?_
    refine lv_iand X.1.1 X.1.2.1 dL_law_32 ?_
    exact L_switch X hR q _ (fun M1 N1 hR1 => L_step6 X (ih (i + 6) M1 N1 (by omega) (by omega) hR1)) H locs ls hC hM hS hl
/-- a new object of the law's -/
theorem law_new {ci idx Nf k n pc : Nat} {C : String} {T : u_T} {ty : Nat → FieldType} {fs : List (Option Sv)} {cs : List Gc} {H : Heap} {locs : List Loc} {ls : Array Slot} {st : List Value} {Q : State → Prop} (X : Lc p s m meth c b L xs g) (hc : CF ci C T Nf ty) (hw : Cond.classLink RL idx C ∈ TB ∧ Cond.instantiable C Nf ∈ TB ∧ Cond.initialized C ∈ TB) (hfs : ∀ j, j < Nf → defaultValue (ty j) = vp_V (fs.map (fvV s.heap.size)) j) (hk : k + 1 ≤ 600000 ∧ n + Nf ≤ 7302250) (hz : k = cs.length) (hP : va_P (g.1, g.2.1) vwCl (gws g s.heap.size cs) H) (hS : va_S (fun q => s.heap.size ≤ q) s.heap H locs) (hd : decode cL_law pc = .ok (.new idx, 3))
    (kk : ∀ H1 : Heap, va_P (g.1, g.2.1) vwCl (gws g s.heap.size (cs ++ [.inr (.inl (ci, fs))])) H1 → va_S (fun q => s.heap.size ≤ q) s.heap H1 locs → W p l e room_1 s m #[Value.ref b] below meth c H1 locs (k + 1) (n + Nf) Q (F0 m (pc + 3) ls (.ref (s.heap.size + cs.length) :: st))) : W p l e room_1 s m #[Value.ref b] below meth c H locs k n Q (F0 m pc ls st) := by
  have ht := tb_in X.1.2.2.2.2.2.1
  refine va_new (ci := ci) (fs := fs.map (fvV s.heap.size)) (C := C) (T := T) (N := Nf) (own := RL) X.1.1 X.1.2.1 ht hc.2.2.1 ty hc.2.2.2.1 X.1.2.2.2.2.1 (ht _ hw.1) (ht _ hw.2.1) (ht _ hw.2.2) X.2.1.1.1 hP gws_D hS (fun q hq => hq) hc.1 hfs hk.1 hk.2 hd (fun q H1 hP1 hD1 hS1 => ?_)
  intro T1 hT1 X1
  have hq : q = s.heap.size + cs.length := gnew X1 (by omega) (by rw [hT1]; exact hP1) hD1
  subst hq
  have hP1 : va_P (g.1, g.2.1) vwCl (gws g s.heap.size (cs ++ [.inr (.inl (ci, fs))])) H1 := by rw [gws_push]; exact hP1
  exact kk H1 hP1 hS1 T1 hT1 X1
/-- a constructor's call of the law's -/
theorem law_ctor {Y' : Mth} {idx b' kc nc k n pc : Nat} {cs cs' : List Gc} {H : Heap} {locs : List Loc} {ls : Array Slot} {Ls : List (Nat × Value)} {st : List Value} {Q : State → Prop} (X : Lc p s m meth c b L xs g) (hY : YF Y' 0) (hd0 : Y'.2.2.2.2 ≤ 200) (hC : CnG l g b' Y' kc nc [.inl 0] cs cs') (hi' : Y'.1.name = "<init>") (hret : Y'.2.2.2.1 = none) (hin : Cond.instanceMethod Y'.1 ∈ TB) (hw : Cond.methodLink RL idx Y'.1 ∈ TB) (hbs : s.heap.size ≤ b') (hlen : 0 < cs.length) (hz : s.heap.size + k = b' + cs.length) (hk : k + kc ≤ 600000 ∧ n + nc ≤ 7302250) (hrm : (st.map fun v => v.category).sum ≤ 8) (hP : va_P (g.1, g.2.1) vwCl (gws g b' cs) H) (hS : va_S (fun q => s.heap.size ≤ q) s.heap H locs) (hl : lv_has ls 4 Ls) (hd : decode cL_law pc = .ok (.invokespecial idx, 3))
    (kk : ∀ (H1 : Heap) (locs1 : List Loc), va_P (g.1, g.2.1) vwCl (gws g b' cs') H1 → (∀ q, q < b' → H1[q]? = H[q]?) → va_S (fun q => s.heap.size ≤ q) s.heap H1 locs1 → W p l e room_1 s m #[Value.ref b] below meth c H1 locs1 (k + kc) (n + nc) Q (F0 m (pc + 3) ls st)) : W p l e room_1 s m #[Value.ref b] below meth c H locs k n Q (F0 m pc ls (.ref (b' + 0) :: st)) := by
  intro T hT X1
  have ht := tb_in X.1.2.2.2.2.2.1
  have hlt : b' + (cs.length - 1) < H.size := (hP _ _ (gws_get (g := g) (b := b') (List.getElem?_eq_getElem (show cs.length - 1 < cs.length by omega)))).lt
  have hsz : H.size = b' + cs.length := by
    have h1 : T.heap.size ≤ s.heap.size + k := X1.same.2.2.1
    rw [hT] at h1
    omega
  have hws : mws Y' = Cond.code Y'.1 Y'.2.1 Y'.2.2.1 none :: TB := by unfold mws; rw [hret]
  have hR0 : (rmG Y'.2.2.2.2 kc nc).frames + 1 ≤ room_1.frames ∧ 8 + (Y'.2.2.1 + 11) + (rmG Y'.2.2.2.2 kc nc).locals ≤ room_1.locals := by
    have := hY.2.2.2
    simp only [rmG, room_1]
    omega
  have hpre : PreS s H (va_Pc (svs b' [.inl 0]) (fun U => va_P (g.1, g.2.1) vwCl (gws g b' cs) U.heap ∧ U.heap.size = b' + cs.length ∧ Evg g U)) (.ref (b' + 0) :: []) := ⟨G_blind, fun U hU hW => ⟨rfl, by rw [hU]; exact hP, by rw [hU]; exact hsz, Evg.warm hW X.2.1⟩⟩
  have hR := va_runI (Ts := TB) (own := RL) (cells := k) (slots := n) (locs := locs) (R := room_1) (e := e) (below := below) (meth := meth) (As := []) (b := b' + 0) (g := F0 m pc ls (.ref (b' + 0) :: st)) (rest := st) ⟨X.1.1, X.1.2.1, X.1.2.2.2.1, X.1.2.2.2.2.1, ht⟩ hC ⟨callB_of 0 ht (goodY hY.1) hws rfl rfl (ht _ hY.2.1) (ht _ hw) hY.2.2.1 hR0, hi', ht _ hin⟩ hpre rfl rfl hl.1 rfl (lv_room hrm) hd hk
  obtain ⟨v', st₀, t, T', L', h0, X', hL, e1, e2, ⟨hv, hb, hzz, hkk⟩, sg⟩ := hR T hT X1
  cases hv
  rw [h0] at hzz hkk
  obtain ⟨t2, a1, b1⟩ := kk T'.heap (locs ++ L') (by rw [e1]; exact hb) (fun q hq => by rw [e1]; exact hkk q (by omega) (Nat.not_le.mpr hq))
    ⟨Nat.le_trans hS.1 (by rw [e1]; exact hzz), fun q h1 h2 => by rw [e1, hkk q (Nat.lt_of_lt_of_le h1 hS.1) (fun hA => h2 (Nat.le_trans hbs hA))]; exact hS.2.1 q h1 h2, fun q hq => by
      rcases List.mem_append.mp hq with h | h
      · exact hS.2.2 q h
      · exact Nat.le_trans hbs (hL q h)⟩ T' rfl X'
  exact ⟨t2, sg t2 a1, b1⟩
end LL
theorem dfl_b9 (b : Nat) : (dfl 9).map (fvV b) = (dfl 9).map (fvV 0) := rfl
theorem dfl_b10 (b : Nat) : (dfl 10).map (fvV b) = (dfl 10).map (fvV 0) := rfl
/-- YOUR PART: from the entry, for every script of at most 384 ints, the law comes to its end with true -/
theorem whole_start {p : Program} {e : Env} {s : State} {m : MethodId} {below : List Frame} {meth : Method} {c : Code} (l : Launch) {b L : Nat} {xs : Nat → Int32} (hL : L ≤ 384) (C0 : lw_At p s m meth c b L xs) : W p l e room_1 s m #[Value.ref b] below meth c s.heap [] 0 0 (lw_Z below #[Value.ref b] s) (entryFrame m ([Value.ref b] : List Value).toArray 4) := by
  obtain ⟨g, hE, hEh⟩ := entry C0.2.2.2.2.2.1 C0.2.2.2.2.2.2.2.2.2
  have X : Lc p s m meth c b L xs g := ⟨C0, hE, hEh, hL⟩
  have hl := lv_entry [Value.ref b] (n := 4) (Nat.le_of_ble_eq_true rfl)
  rw [lg_entry_eq]
  have hl : lv_has _ 4 [(0, Value.ref b)] := hl
  refine law_new (ci := 9) (cs := []) (fs := dfl 9) X kX9 ⟨tw_83, tw_84, tw_65⟩ (fun j hj => by rw [dfl_b9]; exact dv_X9 j hj) (by decide) rfl (fun k q hq => by cases hq) va_S.rf dL_law_0 (fun H1 hP1 hS1 => ?_)
  refine lv_dup X.1.1 X.1.2.1 dL_law_3 rfl ?_
  refine law_ctor (pc := 4) (b' := s.heap.size) X yf_X9_init (by decide) ctorC rfl rfl tw_86 tw_85 (Nat.le_refl _) (by decide) rfl (by decide) (Nat.le_of_ble_eq_true rfl) hP1 hS1 hl dL_law_4 (fun H2 locs2 hP2 _ hS2 => ?_)
  refine lv_astore_n (lv' := [(1, .ref (s.heap.size + 0)), (0, .ref b)]) X.1.1 X.1.2.1 dL_law_7 rfl hl (by decide) rfl (fun ls hl => ?_)
  refine law_new (ci := 10) (cs := csC) (fs := dfl 10) X kX10 ⟨tw_1064, tw_1065, tw_75⟩ (fun j hj => by rw [dfl_b10]; exact dv_X10 j hj) (by decide) csC_len.symm hP2 hS2 dL_law_8 (fun H3 hP3 hS3 => ?_)
  rw [csC_len]
  refine lv_dup X.1.1 X.1.2.1 dL_law_11 rfl ?_
  have hP4 : va_P (g.1, g.2.1) vwCl (gws g (s.heap.size + 135) (cs0 10)) H3 := by
    intro k q hq
    have hk : k = 0 := by
      have := (gws_inv hq).2
      have h1 : (cs0 10).length = 1 := rfl
      omega
    subst hk
    have h1 := hP3 135 _ (gws_get (g := g) (b := s.heap.size) (c := .inr (.inl (10, dfl 10))) (by rw [List.getElem?_append_right (by rw [csC_len]; exact Nat.le_refl _), csC_len]; rfl))
    rw [gws_get (g := g) (b := s.heap.size + 135) (c := .inr (.inl (10, dfl 10))) (i := 0) rfl] at hq
    cases hq
    exact h1
  refine law_ctor (pc := 12) (b' := s.heap.size + 135) X yf_X10_init (by decide) ctorM rfl rfl tw_1067 tw_1066 (Nat.le_add_right _ _) (by decide) (by show _ + 136 = _ + 135 + 1; omega) (by decide) (Nat.le_of_ble_eq_true rfl) hP4 hS3 hl dL_law_12 (fun H5 locs5 hP5 hkeep hS5 => ?_)
  refine lv_astore_n (lv' := [(2, .ref (s.heap.size + 135 + 0)), (1, .ref (s.heap.size + 0)), (0, .ref b)]) X.1.1 X.1.2.1 dL_law_15 rfl hl (by decide) rfl (fun ls hl => ?_)
  refine lv_iconst (v := 0) X.1.1 X.1.2.1 dL_law_16 rfl ?_
  refine lv_istore_n (lv' := Lv b s.heap.size 0) X.1.1 X.1.2.1 dL_law_17 rfl hl (by decide) rfl (fun ls hl => ?_)
  have hPC : va_P (g.1, g.2.1) vwCl (wws g (wC s.heap.size) M0) H5 := by
    refine gws_wws chC (va_P.kept (H := H3) (fun k q hq => ?_) (fun k q hq => ?_))
    · exact (hP3 k q (by rw [gws_push, List.getElem?_append_left (by exact (List.getElem?_eq_some_iff.mp hq).1)]; exact hq))
    · have h1 := gws_inv hq
      rw [csC_len] at h1
      exact hkeep q.1 (by omega)
  exact L_loop X 384 0 M0 N0 (by omega) (by decide) rel0 H5 locs5 ls hPC (gws_wws chM hP5) hS5 hl
