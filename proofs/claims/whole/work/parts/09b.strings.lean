section VS
variable {l : Launch} {g : Gam} {w : Wld} {Y : Mth} {pc : Nat} {L : List (Nat × Value)} {st : List Value} {M M2 : Mem} {r : Option Value}
theorem V_gsC {idx : Nat} (hw : Cond.fieldLink Y.1.cls idx "java/lang/String" "COMPACT_STRINGS" "Z" ∈ TB) (hd : decode Y.2.1 pc = .ok (.getstatic idx, 3)) (kk : V l g w Y (pc + 3) L (.int 1 :: st) M r M2) : V l g w Y pc L st M r M2 := by
  intro p e s m args below meth c H locs ls hx hb hml hr hlk ho ht hE hP hS hl
  exact va_gets hx hb hE.2.2.2.2.1 hS ho (ht _ hw) (fun x hx => hx) hd (kk _ _ _ _ _ _ _ _ _ _ _ hx hb hml hr hlk ho ht hE hP hS hl)
theorem V_gsF {idx : Nat} (hw : Cond.fieldLink Y.1.cls idx "jdk/internal/util/Preconditions" "SIOOBE_FORMATTER" "Ljava/util/function/BiFunction;" ∈ TB) (hd : decode Y.2.1 pc = .ok (.getstatic idx, 3)) (k1 : V l g w Y (pc + 3) L (.null :: st) M r M2) (k2 : ∀ t : Nat, V l g w Y (pc + 3) L (.ref t :: st) M r M2) : V l g w Y pc L st M r M2 := by
  intro p e s m args below meth c H locs ls hx hb hml hr hlk ho ht hE hP hS hl
  rcases hE.2.2.2.2.2 with hZ | ⟨t, hZ⟩
  · exact va_gets hx hb hZ hS ho (ht _ hw) (fun x hx => hx) hd (k1 _ _ _ _ _ _ _ _ _ _ _ hx hb hml hr hlk ho ht hE hP hS hl)
  · exact va_gets hx hb hZ hS ho (ht _ hw) (fun x hx => hx) hd (k2 t _ _ _ _ _ _ _ _ _ _ _ hx hb hml hr hlk ho ht hE hP hS hl)
theorem V_gfC {idx i : Nat} (hi : i < 6) (hw : Cond.fieldLink Y.1.cls idx "java/lang/String" "coder" "B" ∈ TB) (hd : decode Y.2.1 pc = .ok (.getfield idx, 3)) (kk : V l g w Y (pc + 3) L (.int 0 :: st) M r M2) : V l g w Y pc L (.ref (g.2.2.2.2.2.1 i) :: st) M r M2 := by
  intro p e s m args below meth c H locs ls hx hb hml hr hlk ho ht hE hP hS hl
  exact vk_getf hx hb (hE.2.2.2.1.1 i hi).2.1 hS ho (ht _ hw) (fun x hx => hx) hd (kk _ _ _ _ _ _ _ _ _ _ _ hx hb hml hr hlk ho ht hE hP hS hl)
theorem V_gfV {idx i : Nat} (hi : i < 6) (hw : Cond.fieldLink Y.1.cls idx "java/lang/String" "value" "[B" ∈ TB) (hd : decode Y.2.1 pc = .ok (.getfield idx, 3)) (kk : V l g w Y (pc + 3) L (.ref (g.2.2.2.2.2.2 i) :: st) M r M2) : V l g w Y pc L (.ref (g.2.2.2.2.2.1 i) :: st) M r M2 := by
  intro p e s m args below meth c H locs ls hx hb hml hr hlk ho ht hE hP hS hl
  exact vk_getf hx hb (hE.2.2.2.1.1 i hi).2.2.1 hS ho (ht _ hw) (fun x hx => hx) hd (kk _ _ _ _ _ _ _ _ _ _ _ hx hb hml hr hlk ho ht hE hP hS hl)
theorem V_alenB {i : Nat} (hi : i < 6) (hd : decode Y.2.1 pc = .ok (.arraylength, 1)) (kk : V l g w Y (pc + 1) L (.int (nI (strL.getD i 0)) :: st) M r M2) : V l g w Y pc L (.ref (g.2.2.2.2.2.2 i) :: st) M r M2 := by
  intro p e s m args below meth c H locs ls hx hb hml hr hlk ho ht hE hP hS hl
  exact va_tlen hx hb (hE.2.2.2.1.1 i hi).2.2.2 hS rfl hd (kk _ _ _ _ _ _ _ _ _ _ _ hx hb hml hr hlk ho ht hE hP hS hl)
theorem V_baldB {i : Nat} {j : Int32} (hi : i < 6) (hj : ixb j (strL.getD i 0) = true) (hd : decode Y.2.1 pc = .ok (.baload, 1)) (kk : V l g w Y (pc + 1) L (.int ((strB.getD i []).getD (ix j) 0) :: st) M r M2) : V l g w Y pc L (.int j :: .ref (g.2.2.2.2.2.2 i) :: st) M r M2 := by
  intro p e s m args below meth c H locs ls hx hb hml hr hlk ho ht hE hP hS hl
  exact va_tb hx hb (hE.2.2.2.1.1 i hi).2.2.2 hS (ixb_in hj) rfl hd (kk _ _ _ _ _ _ _ _ _ _ _ hx hb hml hr hlk ho ht hE hP hS hl)
theorem V_cStr {Y' : Mth} {n idx i : Nat} {As : List Value} {x : Int32} {M' : Mem} {st0 : List Value} (hY : YF Y' n) (hd0 : Y'.2.2.2.2 < Y.2.2.2.2) (hC : Cn l g w Y' (.ref (g.2.2.2.2.2.1 i) :: As) M (some (.int x)) M') (hcl : Y'.1.cls = "java/lang/String") (hi : i < 6) (hin : Cond.instanceMethod Y'.1 ∈ TB) (hse : Cond.selects Y'.1.cls Y'.1 Y'.1 ∈ TB) (hw : Cond.methodLink Y.1.cls idx Y'.1 ∈ TB) (hn : As.length = n) (h0 : st0 = As.reverse ++ .ref (g.2.2.2.2.2.1 i) :: st) (hrm : (st.map fun v => v.category).sum ≤ 8) (hd : decode Y.2.1 pc = .ok (.invokevirtual idx, 3)) (kk : V l g w Y (pc + 3) L (.int x :: st) M' r M2) : V l g w Y pc L st0 M r M2 := by
  intro p e s m args below meth c H locs ls hx hb hml hr hlk ho ht hE hP hS hl
  subst h0
  have hR : (rmD Y'.2.2.2.2).frames + 1 ≤ (rmD Y.2.2.2.2).frames ∧ 8 + (Y'.2.2.1 + 11) + (rmD Y'.2.2.2.2).locals ≤ (rmD Y.2.2.2.2).locals := by
    have := hY.2.2.2
    simp only [rmD]
    omega
  have hrc := vk_recv (H := H) (locs := locs) hE.2.2.2.1 hi hS
  rw [← hcl] at hrc
  refine V_run (Y' := Y') (As := As) (va_runV (Ts := TB) (own := Y.1.cls) (C := Y'.1.cls) ⟨hx, hb, hml, ho, ht⟩ hC ⟨callB_of n ht (goodY hY.1) rfl rfl rfl (ht _ hY.2.1) (ht _ hw) hY.2.2.1 hR, ht _ hin, ht _ hse⟩ ⟨Cn_blind, hrc, Cn_pre hE hP hS⟩ rfl hn hl.1 rfl (lv_room hrm) hd ⟨Nat.zero_le _, Nat.zero_le _⟩) hS (fun H1 locs1 hP1 hS1 => kk _ _ _ _ _ _ _ _ _ _ _ hx hb hml hr hlk ho ht hE hP1 hS1 hl)
abbrev m_strcoder : Mth := (yJ0_coder_7d493, cJ0_coder_7d493, 1, some .byte, 1)
theorem yf_strcoder : YF m_strcoder 0 := ⟨tw_622, tw_77, by decide +kernel, by decide +kernel⟩
abbrev m_strlat : Mth := (yJ0_isLatin1_aae02, cJ0_isLatin1_aae02, 1, some .boolean, 1)
theorem yf_strlat : YF m_strlat 0 := ⟨tw_632, tw_77, by decide +kernel, by decide +kernel⟩
abbrev m_strlen : Mth := (yJ0_length_8abf5, cJ0_length_8abf5, 1, some .int, 2)
theorem yf_strlen : YF m_strlen 0 := ⟨tw_618, tw_77, by decide +kernel, by decide +kernel⟩
abbrev m_strpc : Mth := (yJ3_checkIndex_8e157, cJ3_checkIndex_8e157, 3, some .int, 1)
theorem yf_strpc : YF m_strpc 3 := ⟨tw_643, tw_79, by decide +kernel, by decide +kernel⟩
abbrev m_strci : Mth := (yJ0_checkIndex_df160, cJ0_checkIndex_df160, 2, none, 2)
theorem yf_strci : YF m_strci 2 := ⟨tw_638, tw_77, by decide +kernel, by decide +kernel⟩
abbrev m_strl1 : Mth := (yJ1_charAt_3b067, cJ1_charAt_3b067, 2, some .char, 3)
theorem yf_strl1 : YF m_strl1 2 := ⟨tw_635, tw_78, by decide +kernel, by decide +kernel⟩
abbrev m_strchar : Mth := (yJ0_charAt_5068e, cJ0_charAt_5068e, 2, some .char, 4)
theorem yf_strchar : YF m_strchar 1 := ⟨tw_628, tw_77, by decide +kernel, by decide +kernel⟩
theorem str_shr : ∀ i, i < 6 → (nI (strL.getD i 0)) >>> ((0 : Int32) &&& 31) = nI (strL.getD i 0) := by decide +kernel
theorem str_chr : ∀ i, i < 6 → ∀ k, k < strL.getD i 0 → i2c ((strB.getD i []).getD k 0 &&& 255) = (strB.getD i []).getD k 0 ∧ narrow .char (.int ((strB.getD i []).getD k 0)) = .int ((strB.getD i []).getD k 0) := by decide +kernel
theorem str_small : ∀ i, i < 6 → strL.getD i 0 < 2 ^ 31 := by decide +kernel
theorem ok_strcoder {i : Nat} (hi : i < 6) (M : Mem) : Cn l g w m_strcoder [.ref (g.2.2.2.2.2.1 i)] M (some (.int 0)) M := by
  refine Cn_of (by decide +kernel) (Nat.le_of_ble_eq_true rfl) ?_
  show V l g w m_strcoder 0 [(0, .ref (g.2.2.2.2.2.1 i))] [] M (some (.int 0)) M
  refine V_gsC (Y := m_strcoder) (pc := 0) tw_623 dJ0_coder_7d493_0 ?_
  refine V_if_eq (Y := m_strcoder) (pc := 3) (tgt := 13) (F := none) (G := some ()) dJ0_coder_7d493_3 (by decide +kernel) (z := ()) (by decide +kernel) (fun h => by cases h) (fun _ => ?_)
  refine V_aload_n (Y := m_strcoder) (pc := 6) 0 dJ0_coder_7d493_6 rfl ?_
  refine V_gfC (Y := m_strcoder) (pc := 7) hi tw_1664 dJ0_coder_7d493_7 ?_
  refine V_goto (Y := m_strcoder) (pc := 10) (tgt := 14) dJ0_coder_7d493_10 (by decide +kernel) ?_
  exact V_bret (Y := m_strcoder) (by decide +kernel) rfl dJ0_coder_7d493_14
theorem ok_strlat {i : Nat} (hi : i < 6) (M : Mem) : Cn l g w m_strlat [.ref (g.2.2.2.2.2.1 i)] M (some (.int 1)) M := by
  refine Cn_of (by decide +kernel) (Nat.le_of_ble_eq_true rfl) ?_
  show V l g w m_strlat 0 [(0, .ref (g.2.2.2.2.2.1 i))] [] M (some (.int 1)) M
  refine V_gsC (Y := m_strlat) (pc := 0) tw_623 dJ0_isLatin1_aae02_0 ?_
  refine V_if_eq (Y := m_strlat) (pc := 3) (tgt := 17) (F := none) (G := some ()) dJ0_isLatin1_aae02_3 (by decide +kernel) (z := ()) (by decide +kernel) (fun h => by cases h) (fun _ => ?_)
  refine V_aload_n (Y := m_strlat) (pc := 6) 0 dJ0_isLatin1_aae02_6 rfl ?_
  refine V_gfC (Y := m_strlat) (pc := 7) hi tw_1664 dJ0_isLatin1_aae02_7 ?_
  refine V_if_ne (Y := m_strlat) (pc := 10) (tgt := 17) (F := none) (G := some ()) dJ0_isLatin1_aae02_10 (by decide +kernel) (z := ()) (by decide +kernel) (fun h => by cases h) (fun _ => ?_)
  refine V_iconst (Y := m_strlat) (pc := 13) (x := 1) dJ0_isLatin1_aae02_13 (by decide +kernel) ?_
  refine V_goto (Y := m_strlat) (pc := 14) (tgt := 18) dJ0_isLatin1_aae02_14 (by decide +kernel) ?_
  exact V_zret (Y := m_strlat) z01_1 rfl dJ0_isLatin1_aae02_18
theorem ok_strlen0 {i : Nat} (hi : i < 6) (M : Mem) : Cn l g w m_strlen [.ref (g.2.2.2.2.2.1 i)] M (some (.int (nI (strL.getD i 0)))) M := by
  refine Cn_of (by decide +kernel) (Nat.le_of_ble_eq_true rfl) ?_
  show V l g w m_strlen 0 [(0, .ref (g.2.2.2.2.2.1 i))] [] M (some (.int (nI (strL.getD i 0)))) M
  refine V_aload_n (Y := m_strlen) (pc := 0) 0 dJ0_length_8abf5_0 rfl ?_
  refine V_gfV (Y := m_strlen) (pc := 1) hi tw_1663 dJ0_length_8abf5_1 ?_
  refine V_alenB (Y := m_strlen) (pc := 4) hi dJ0_length_8abf5_4 ?_
  refine V_aload_n (Y := m_strlen) (pc := 5) 0 dJ0_length_8abf5_5 rfl ?_
  refine V_cStr (Y := m_strlen) (pc := 6) (As := []) yf_strcoder (by decide +kernel) (ok_strcoder hi M) rfl hi tw_620 tw_621 tw_619 rfl rfl (Nat.le_of_ble_eq_true rfl) dJ0_length_8abf5_6 ?_
  refine V_ishr (Y := m_strlen) (pc := 9) dJ0_length_8abf5_9 ?_
  rw [str_shr i hi]
  exact V_iret (Y := m_strlen) rfl dJ0_length_8abf5_10
theorem ok_strpc {j : Int32} {n : Nat} (hj : ixb j n = true) (hn : n < 2 ^ 31) (v : Value) (hv : v = .null ∨ ∃ t, v = .ref t) (M : Mem) : Cn l g w m_strpc [.int j, .int (nI n), v] M (some (.int j)) M := by
  have hq := of_decide_eq_true hj
  have h1 : ¬ j < 0 := fun q => by
    have := Int32.lt_iff_toInt_lt.mp q
    rw [Int32.toInt_zero] at this
    omega
  have h2 : j < nI n := by
    rw [Int32.lt_iff_toInt_lt, nI_toInt hn]
    exact hq.2
  have key : ∀ v : Value, V l g w m_strpc 0 [(0, .int j), (1, .int (nI n)), (2, v)] [] M (some (.int j)) M := by
    intro v
    refine V_iload_n (Y := m_strpc) (pc := 0) 0 dJ3_checkIndex_8e157_0 rfl ?_
    refine V_if_lt (Y := m_strpc) (pc := 1) (tgt := 9) (F := none) (G := some ()) dJ3_checkIndex_8e157_1 (by decide +kernel) (z := ()) (if_neg h1) (fun h => by cases h) (fun _ => ?_)
    refine V_iload_n (Y := m_strpc) (pc := 4) 0 dJ3_checkIndex_8e157_4 rfl ?_
    refine V_iload_n (Y := m_strpc) (pc := 5) 1 dJ3_checkIndex_8e157_5 rfl ?_
    refine V_icmp_lt (Y := m_strpc) (pc := 6) (tgt := 16) (F := some ()) (G := none) dJ3_checkIndex_8e157_6 (by decide +kernel) (z := ()) (if_pos h2) (fun _ => ?_) (fun h => by cases h)
    refine V_iload_n (Y := m_strpc) (pc := 16) 0 dJ3_checkIndex_8e157_16 rfl ?_
    exact V_iret (Y := m_strpc) rfl dJ3_checkIndex_8e157_17
  refine Cn_of (by decide +kernel) ?_ ?_
  · rcases hv with rfl | ⟨t, rfl⟩ <;> exact Nat.le_of_ble_eq_true rfl
  · rcases hv with rfl | ⟨t, rfl⟩
    · exact key .null
    · exact key (.ref t)
theorem ok_strci {j : Int32} {n : Nat} (hj : ixb j n = true) (hn : n < 2 ^ 31) (M : Mem) : Cn l g w m_strci [.int j, .int (nI n)] M none M := by
  refine Cn_of (by decide +kernel) (Nat.le_of_ble_eq_true rfl) ?_
  show V l g w m_strci 0 [(0, .int j), (1, .int (nI n))] [] M none M
  refine V_iload_n (Y := m_strci) (pc := 0) 0 dJ0_checkIndex_df160_0 rfl ?_
  refine V_iload_n (Y := m_strci) (pc := 1) 1 dJ0_checkIndex_df160_1 rfl ?_
  refine V_gsF (Y := m_strci) (pc := 2) tw_639 dJ0_checkIndex_df160_2 ?_ (fun t => ?_)
  · refine V_cSi (Y := m_strci) (pc := 5) (As := [.int j, .int (nI n), .null]) yf_strpc (by decide +kernel) (ok_strpc hj hn .null (Or.inl rfl) M) tw_642 tw_641 rfl rfl (Nat.le_of_ble_eq_true rfl) dJ0_checkIndex_df160_5 ?_
    refine V_pop (Y := m_strci) (pc := 8) dJ0_checkIndex_df160_8 rfl ?_
    exact V_vret (Y := m_strci) rfl dJ0_checkIndex_df160_9
  · refine V_cSi (Y := m_strci) (pc := 5) (As := [.int j, .int (nI n), .ref t]) yf_strpc (by decide +kernel) (ok_strpc hj hn (.ref t) (Or.inr ⟨t, rfl⟩) M) tw_642 tw_641 rfl rfl (Nat.le_of_ble_eq_true rfl) dJ0_checkIndex_df160_5 ?_
    refine V_pop (Y := m_strci) (pc := 8) dJ0_checkIndex_df160_8 rfl ?_
    exact V_vret (Y := m_strci) rfl dJ0_checkIndex_df160_9
theorem V_cSv {Y' : Mth} {n idx : Nat} {As : List Value} {M' : Mem} {st0 : List Value} (hY : YF Y' n) (hd0 : Y'.2.2.2.2 < Y.2.2.2.2) (hC : Cn l g w Y' As M none M') (hst : Cond.static Y'.1 ∈ TB) (hw : Cond.methodLink Y.1.cls idx Y'.1 ∈ TB) (hn : As.length = n) (h0 : st0 = As.reverse ++ st) (hrm : (st.map fun v => v.category).sum ≤ 8) (hd : decode Y.2.1 pc = .ok (.invokestatic idx, 3)) (kk : V l g w Y (pc + 3) L st M' r M2) : V l g w Y pc L st0 M r M2 := V_cS hY hd0 hC hst hw hn h0 hrm hd kk
theorem ok_strl1 {i : Nat} (hi : i < 6) {j : Int32} (hj : ixb j (strL.getD i 0) = true) (M : Mem) : Cn l g w m_strl1 [.ref (g.2.2.2.2.2.2 i), .int j] M (some (.int ((strB.getD i []).getD (ix j) 0))) M := by
  obtain ⟨e1, e2⟩ := str_chr i hi (ix j) (ixb_lt hj)
  refine Cn_of (by decide +kernel) (Nat.le_of_ble_eq_true rfl) ?_
  show V l g w m_strl1 0 [(0, .ref (g.2.2.2.2.2.2 i)), (1, .int j)] [] M (some (.int ((strB.getD i []).getD (ix j) 0))) M
  refine V_iload_n (Y := m_strl1) (pc := 0) 1 dJ1_charAt_3b067_0 rfl ?_
  refine V_aload_n (Y := m_strl1) (pc := 1) 0 dJ1_charAt_3b067_1 rfl ?_
  refine V_alenB (Y := m_strl1) (pc := 2) hi dJ1_charAt_3b067_2 ?_
  refine V_cSv (Y := m_strl1) (pc := 3) (As := [.int j, .int (nI (strL.getD i 0))]) yf_strci (by decide +kernel) (ok_strci hj (str_small i hi) M) tw_637 tw_636 rfl rfl (Nat.le_of_ble_eq_true rfl) dJ1_charAt_3b067_3 ?_
  refine V_aload_n (Y := m_strl1) (pc := 6) 0 dJ1_charAt_3b067_6 rfl ?_
  refine V_iload_n (Y := m_strl1) (pc := 7) 1 dJ1_charAt_3b067_7 rfl ?_
  refine V_baldB (Y := m_strl1) (pc := 8) hi hj dJ1_charAt_3b067_8 ?_
  refine V_sipush (Y := m_strl1) (pc := 9) (x := 255) dJ1_charAt_3b067_9 (by decide +kernel) ?_
  refine V_iand (Y := m_strl1) (pc := 12) dJ1_charAt_3b067_12 ?_
  refine V_i2c (Y := m_strl1) (pc := 13) dJ1_charAt_3b067_13 ?_
  rw [e1]
  exact V_cret (Y := m_strl1) e2 rfl dJ1_charAt_3b067_14
theorem ok_strchar0 {i : Nat} (hi : i < 6) {j : Int32} (hj : ixb j (strL.getD i 0) = true) (M : Mem) : Cn l g w m_strchar [.ref (g.2.2.2.2.2.1 i), .int j] M (some (.int ((strB.getD i []).getD (ix j) 0))) M := by
  obtain ⟨e1, e2⟩ := str_chr i hi (ix j) (ixb_lt hj)
  refine Cn_of (by decide +kernel) (Nat.le_of_ble_eq_true rfl) ?_
  show V l g w m_strchar 0 [(0, .ref (g.2.2.2.2.2.1 i)), (1, .int j)] [] M (some (.int ((strB.getD i []).getD (ix j) 0))) M
  refine V_aload_n (Y := m_strchar) (pc := 0) 0 dJ0_charAt_5068e_0 rfl ?_
  refine V_cStr (Y := m_strchar) (pc := 1) (As := []) yf_strlat (by decide +kernel) (ok_strlat hi M) rfl hi tw_630 tw_631 tw_629 rfl rfl (Nat.le_of_ble_eq_true rfl) dJ0_charAt_5068e_1 ?_
  refine V_if_eq (Y := m_strchar) (pc := 4) (tgt := 16) (F := none) (G := some ()) dJ0_charAt_5068e_4 (by decide +kernel) (z := ()) (by decide +kernel) (fun h => by cases h) (fun _ => ?_)
  refine V_aload_n (Y := m_strchar) (pc := 7) 0 dJ0_charAt_5068e_7 rfl ?_
  refine V_gfV (Y := m_strchar) (pc := 8) hi tw_1663 dJ0_charAt_5068e_8 ?_
  refine V_iload_n (Y := m_strchar) (pc := 11) 1 dJ0_charAt_5068e_11 rfl ?_
  refine V_cSi (Y := m_strchar) (pc := 12) (As := [.ref (g.2.2.2.2.2.2 i), .int j]) yf_strl1 (by decide +kernel) (ok_strl1 hi hj M) tw_634 tw_633 rfl rfl (Nat.le_of_ble_eq_true rfl) dJ0_charAt_5068e_12 ?_
  exact V_cret (Y := m_strchar) e2 rfl dJ0_charAt_5068e_15
def f_strlen (i : Nat) (M : Mem) : Option (Int32 × Mem) := if i < 6 then some (nI (strL.getD i 0), M) else none
def f_strchar (i : Nat) (j : Int32) (M : Mem) : Option (Int32 × Mem) := if i < 6 ∧ ixb j (strL.getD i 0) = true then some ((strB.getD i []).getD (ix j) 0, M) else none
theorem strlen_lt {i : Nat} {M : Mem} {z : Int32 × Mem} (hf : f_strlen i M = some z) : i < 6 := (g_if hf).1
theorem strchar_lt {i : Nat} {j : Int32} {M : Mem} {z : Int32 × Mem} (hf : f_strchar i j M = some z) : i < 6 := (g_if hf).1.1
theorem ok_strlen (i : Nat) (M : Mem) (z : Int32 × Mem) (hf : f_strlen i M = some z) : Cn l g w m_strlen [.ref (g.2.2.2.2.2.1 i)] M (some (.int z.1)) z.2 := by
  obtain ⟨hi, hf⟩ := g_if hf
  cases hf
  exact ok_strlen0 hi M
theorem ok_strchar (i : Nat) (j : Int32) (M : Mem) (z : Int32 × Mem) (hf : f_strchar i j M = some z) : Cn l g w m_strchar [.ref (g.2.2.2.2.2.1 i), .int j] M (some (.int z.1)) z.2 := by
  obtain ⟨hi, hf⟩ := g_if hf
  cases hf
  exact ok_strchar0 hi.1 hi.2 M
end VS
