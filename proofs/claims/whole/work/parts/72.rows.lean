/-! CONSTRUCTORS: their rows -/
theorem dfl_in (ci N : Nat) (h : N ≤ (dfl ci).length ∧ (dfl ci).all (fun x => match x with | some (.inl _) => false | _ => true) = true) : ∀ j, j < N → ∃ x, (dfl ci)[j]? = some x ∧ (x = none ∨ ∃ v, x = some (.inr v)) := by
  intro j hj
  have hl : j < (dfl ci).length := Nat.lt_of_lt_of_le hj h.1
  refine ⟨_, List.getElem?_eq_getElem hl, ?_⟩
  have h2 := List.all_eq_true.mp h.2 _ (List.getElem_mem hl)
  generalize (dfl ci)[j] = x at h2
  match x, h2 with
  | none, _ => exact Or.inl rfl
  | some (.inr v), _ => exact Or.inr ⟨v, rfl⟩
  | some (.inl _), h2 => cases h2
theorem dv_X0 : ∀ j, j < 13 → defaultValue (tyX0 j) = vp_V ((dfl 0).map (fvV 0)) j := by decide +kernel
theorem dw_X0 : ∀ j, j < 13 → ∃ x, (dfl 0)[j]? = some x ∧ (x = none ∨ ∃ v, x = some (.inr v)) := dfl_in 0 13 (by decide +kernel)
theorem dv_X1 : ∀ j, j < 5 → defaultValue (tyX1 j) = vp_V ((dfl 1).map (fvV 0)) j := by decide +kernel
theorem dw_X1 : ∀ j, j < 5 → ∃ x, (dfl 1)[j]? = some x ∧ (x = none ∨ ∃ v, x = some (.inr v)) := dfl_in 1 5 (by decide +kernel)
theorem dv_X2 : ∀ j, j < 7 → defaultValue (tyX2 j) = vp_V ((dfl 2).map (fvV 0)) j := by decide +kernel
theorem dw_X2 : ∀ j, j < 7 → ∃ x, (dfl 2)[j]? = some x ∧ (x = none ∨ ∃ v, x = some (.inr v)) := dfl_in 2 7 (by decide +kernel)
theorem dv_X3 : ∀ j, j < 7 → defaultValue (tyX3 j) = vp_V ((dfl 3).map (fvV 0)) j := by decide +kernel
theorem dw_X3 : ∀ j, j < 7 → ∃ x, (dfl 3)[j]? = some x ∧ (x = none ∨ ∃ v, x = some (.inr v)) := dfl_in 3 7 (by decide +kernel)
theorem dv_X4 : ∀ j, j < 13 → defaultValue (tyX4 j) = vp_V ((dfl 4).map (fvV 0)) j := by decide +kernel
theorem dw_X4 : ∀ j, j < 13 → ∃ x, (dfl 4)[j]? = some x ∧ (x = none ∨ ∃ v, x = some (.inr v)) := dfl_in 4 13 (by decide +kernel)
theorem dv_X5 : ∀ j, j < 8 → defaultValue (tyX5 j) = vp_V ((dfl 5).map (fvV 0)) j := by decide +kernel
theorem dw_X5 : ∀ j, j < 8 → ∃ x, (dfl 5)[j]? = some x ∧ (x = none ∨ ∃ v, x = some (.inr v)) := dfl_in 5 8 (by decide +kernel)
theorem dv_X6 : ∀ j, j < 3 → defaultValue (tyX6 j) = vp_V ((dfl 6).map (fvV 0)) j := by decide +kernel
theorem dw_X6 : ∀ j, j < 3 → ∃ x, (dfl 6)[j]? = some x ∧ (x = none ∨ ∃ v, x = some (.inr v)) := dfl_in 6 3 (by decide +kernel)
theorem dv_X7 : ∀ j, j < 4 → defaultValue (tyX7 j) = vp_V ((dfl 7).map (fvV 0)) j := by decide +kernel
theorem dw_X7 : ∀ j, j < 4 → ∃ x, (dfl 7)[j]? = some x ∧ (x = none ∨ ∃ v, x = some (.inr v)) := dfl_in 7 4 (by decide +kernel)
theorem dv_X8 : ∀ j, j < 5 → defaultValue (tyX8 j) = vp_V ((dfl 8).map (fvV 0)) j := by decide +kernel
theorem dw_X8 : ∀ j, j < 5 → ∃ x, (dfl 8)[j]? = some x ∧ (x = none ∨ ∃ v, x = some (.inr v)) := dfl_in 8 5 (by decide +kernel)
theorem dv_X9 : ∀ j, j < 12 → defaultValue (tyX9 j) = vp_V ((dfl 9).map (fvV 0)) j := by decide +kernel
theorem dw_X9 : ∀ j, j < 12 → ∃ x, (dfl 9)[j]? = some x ∧ (x = none ∨ ∃ v, x = some (.inr v)) := dfl_in 9 12 (by decide +kernel)
theorem dv_X10 : ∀ j, j < 47 → defaultValue (tyX10 j) = vp_V ((dfl 10).map (fvV 0)) j := by decide +kernel
theorem dw_X10 : ∀ j, j < 47 → ∃ x, (dfl 10)[j]? = some x ∧ (x = none ∨ ∃ v, x = some (.inr v)) := dfl_in 10 47 (by decide +kernel)
abbrev m_X1_init : Mth := (yX1_init, cX1_init, 1, none, 1)
theorem yf_X1_init : YF m_X1_init 0 := ⟨tw_149, tw_67, by decide +kernel, by decide +kernel⟩
def pg_X1 : List (Nat × Mi) := [(0, 0, 0, 0, 1, 0), (1, 19, 0, 0, 4, 0), (4, 22, 0, 0, 0, 0)]
theorem po_X1 {l : Launch} {g : Gam} {b mc ms : Nat} {rec : Rc}  : PgOk l g b m_X1_init mc ms rec pg_X1 :=
  pg_i rfl (oi_aload (Y := m_X1_init) (pc := 0) 0 dX1_init_0) <|
  pg_i rfl (oi_obj (Y := m_X1_init) (pc := 1) (by decide) ⟨tw_150, tw_89, tw_90⟩ dX1_init_1) <|
  pg_r rfl (dX1_init_4) <|
  pg_nil
abbrev m_X2_init : Mth := (yX2_init, cX2_init, 1, none, 1)
theorem yf_X2_init : YF m_X2_init 0 := ⟨tw_279, tw_72, by decide +kernel, by decide +kernel⟩
def pg_X2 : List (Nat × Mi) := [(0, 0, 0, 0, 1, 0), (1, 19, 0, 0, 4, 0), (4, 22, 0, 0, 0, 0)]
theorem po_X2 {l : Launch} {g : Gam} {b mc ms : Nat} {rec : Rc}  : PgOk l g b m_X2_init mc ms rec pg_X2 :=
  pg_i rfl (oi_aload (Y := m_X2_init) (pc := 0) 0 dX2_init_0) <|
  pg_i rfl (oi_obj (Y := m_X2_init) (pc := 1) (by decide) ⟨tw_280, tw_89, tw_90⟩ dX2_init_1) <|
  pg_r rfl (dX2_init_4) <|
  pg_nil
abbrev m_X3_init : Mth := (yX3_init, cX3_init, 1, none, 1)
theorem yf_X3_init : YF m_X3_init 0 := ⟨tw_175, tw_68, by decide +kernel, by decide +kernel⟩
def pg_X3 : List (Nat × Mi) := [(0, 0, 0, 0, 1, 0), (1, 19, 0, 0, 4, 0), (4, 0, 0, 0, 5, 0), (5, 4, 0, 0, 6, 5), (6, 11, 0, 0, 8, 0), (8, 14, 3, 2, 11, 0), (11, 0, 0, 0, 12, 0), (12, 4, 0, 0, 14, 25), (14, 11, 0, 0, 16, 0), (16, 14, 3, 5, 19, 0), (19, 0, 0, 0, 20, 0), (20, 4, 0, 0, 21, 5), (21, 11, 0, 0, 23, 0), (23, 14, 3, 6, 26, 0), (26, 22, 0, 0, 0, 0)]
theorem po_X3 {l : Launch} {g : Gam} {b mc ms : Nat} {rec : Rc}  : PgOk l g b m_X3_init mc ms rec pg_X3 :=
  pg_i rfl (oi_aload (Y := m_X3_init) (pc := 0) 0 dX3_init_0) <|
  pg_i rfl (oi_obj (Y := m_X3_init) (pc := 1) (by decide) ⟨tw_176, tw_89, tw_90⟩ dX3_init_1) <|
  pg_i rfl (oi_aload (Y := m_X3_init) (pc := 4) 0 dX3_init_4) <|
  pg_i rfl (oi_iconst (Y := m_X3_init) (pc := 5) (5) (by decide +kernel) dX3_init_5) <|
  pg_i rfl (oi_newa (Y := m_X3_init) (pc := 6) tw_144 dX3_init_6) <|
  pg_i rfl (oi_putr (Y := m_X3_init) (pc := 8) (f := 2) kX3 (by decide) (Or.inr ⟨rfl, rfl⟩) (fun _ => ⟨rfl, rfl⟩) tw_181 dX3_init_8) <|
  pg_i rfl (oi_aload (Y := m_X3_init) (pc := 11) 0 dX3_init_11) <|
  pg_i rfl (oi_bipush (Y := m_X3_init) (pc := 12) (25) (by decide +kernel) dX3_init_12) <|
  pg_i rfl (oi_newa (Y := m_X3_init) (pc := 14) tw_144 dX3_init_14) <|
  pg_i rfl (oi_putr (Y := m_X3_init) (pc := 16) (f := 5) kX3 (by decide) (Or.inr ⟨rfl, rfl⟩) (fun _ => ⟨rfl, rfl⟩) tw_185 dX3_init_16) <|
  pg_i rfl (oi_aload (Y := m_X3_init) (pc := 19) 0 dX3_init_19) <|
  pg_i rfl (oi_iconst (Y := m_X3_init) (pc := 20) (5) (by decide +kernel) dX3_init_20) <|
  pg_i rfl (oi_newa (Y := m_X3_init) (pc := 21) tw_144 dX3_init_21) <|
  pg_i rfl (oi_putr (Y := m_X3_init) (pc := 23) (f := 6) kX3 (by decide) (Or.inr ⟨rfl, rfl⟩) (fun _ => ⟨rfl, rfl⟩) tw_186 dX3_init_23) <|
  pg_r rfl (dX3_init_26) <|
  pg_nil
abbrev m_X4_init : Mth := (yX4_init, cX4_init, 1, none, 1)
theorem yf_X4_init : YF m_X4_init 0 := ⟨tw_95, tw_66, by decide +kernel, by decide +kernel⟩
def pg_X4 : List (Nat × Mi) := [(0, 0, 0, 0, 1, 0), (1, 19, 0, 0, 4, 0), (4, 0, 0, 0, 5, 0), (5, 4, 0, 0, 7, 96), (7, 11, 0, 0, 9, 0), (9, 14, 4, 0, 12, 0), (12, 0, 0, 0, 13, 0), (13, 4, 0, 0, 14, 0), (14, 13, 4, 1, 17, 0), (17, 0, 0, 0, 18, 0), (18, 4, 0, 0, 20, 96), (20, 11, 0, 0, 22, 0), (22, 14, 4, 12, 25, 0), (25, 22, 0, 0, 0, 0)]
theorem po_X4 {l : Launch} {g : Gam} {b mc ms : Nat} {rec : Rc}  : PgOk l g b m_X4_init mc ms rec pg_X4 :=
  pg_i rfl (oi_aload (Y := m_X4_init) (pc := 0) 0 dX4_init_0) <|
  pg_i rfl (oi_obj (Y := m_X4_init) (pc := 1) (by decide) ⟨tw_96, tw_89, tw_90⟩ dX4_init_1) <|
  pg_i rfl (oi_aload (Y := m_X4_init) (pc := 4) 0 dX4_init_4) <|
  pg_i rfl (oi_bipush (Y := m_X4_init) (pc := 5) (96) (by decide +kernel) dX4_init_5) <|
  pg_i rfl (oi_newa (Y := m_X4_init) (pc := 7) tw_144 dX4_init_7) <|
  pg_i rfl (oi_putr (Y := m_X4_init) (pc := 9) (f := 0) kX4 (by decide) (Or.inr ⟨rfl, rfl⟩) (fun _ => ⟨rfl, rfl⟩) tw_97 dX4_init_9) <|
  pg_i rfl (oi_aload (Y := m_X4_init) (pc := 12) 0 dX4_init_12) <|
  pg_i rfl (oi_iconst (Y := m_X4_init) (pc := 13) (0) (by decide +kernel) dX4_init_13) <|
  pg_i rfl (oi_puti (Y := m_X4_init) (pc := 14) (f := 1) kX4 (by decide) (Or.inl rfl) rfl tw_98 dX4_init_14) <|
  pg_i rfl (oi_aload (Y := m_X4_init) (pc := 17) 0 dX4_init_17) <|
  pg_i rfl (oi_bipush (Y := m_X4_init) (pc := 18) (96) (by decide +kernel) dX4_init_18) <|
  pg_i rfl (oi_newa (Y := m_X4_init) (pc := 20) tw_144 dX4_init_20) <|
  pg_i rfl (oi_putr (Y := m_X4_init) (pc := 22) (f := 12) kX4 (by decide) (Or.inr ⟨rfl, rfl⟩) (fun _ => ⟨rfl, rfl⟩) tw_115 dX4_init_22) <|
  pg_r rfl (dX4_init_25) <|
  pg_nil
abbrev m_X5_init : Mth := (yX5_init, cX5_init, 1, none, 1)
theorem yf_X5_init : YF m_X5_init 0 := ⟨tw_206, tw_69, by decide +kernel, by decide +kernel⟩
def pg_X5 : List (Nat × Mi) := [(0, 0, 0, 0, 1, 0), (1, 19, 0, 0, 4, 0), (4, 0, 0, 0, 5, 0), (5, 4, 0, 0, 7, 24), (7, 11, 0, 0, 9, 0), (9, 14, 5, 3, 12, 0), (12, 0, 0, 0, 13, 0), (13, 4, 0, 0, 15, 24), (15, 11, 0, 0, 17, 0), (17, 14, 5, 4, 20, 0), (20, 0, 0, 0, 21, 0), (21, 4, 0, 0, 23, 9), (23, 11, 0, 0, 25, 0), (25, 14, 5, 5, 28, 0), (28, 0, 0, 0, 29, 0), (29, 4, 0, 0, 31, 9), (31, 11, 0, 0, 33, 0), (33, 14, 5, 6, 36, 0), (36, 22, 0, 0, 0, 0)]
theorem po_X5 {l : Launch} {g : Gam} {b mc ms : Nat} {rec : Rc}  : PgOk l g b m_X5_init mc ms rec pg_X5 :=
  pg_i rfl (oi_aload (Y := m_X5_init) (pc := 0) 0 dX5_init_0) <|
  pg_i rfl (oi_obj (Y := m_X5_init) (pc := 1) (by decide) ⟨tw_207, tw_89, tw_90⟩ dX5_init_1) <|
  pg_i rfl (oi_aload (Y := m_X5_init) (pc := 4) 0 dX5_init_4) <|
  pg_i rfl (oi_bipush (Y := m_X5_init) (pc := 5) (24) (by decide +kernel) dX5_init_5) <|
  pg_i rfl (oi_newa (Y := m_X5_init) (pc := 7) tw_144 dX5_init_7) <|
  pg_i rfl (oi_putr (Y := m_X5_init) (pc := 9) (f := 3) kX5 (by decide) (Or.inr ⟨rfl, rfl⟩) (fun _ => ⟨rfl, rfl⟩) tw_214 dX5_init_9) <|
  pg_i rfl (oi_aload (Y := m_X5_init) (pc := 12) 0 dX5_init_12) <|
  pg_i rfl (oi_bipush (Y := m_X5_init) (pc := 13) (24) (by decide +kernel) dX5_init_13) <|
  pg_i rfl (oi_newa (Y := m_X5_init) (pc := 15) tw_144 dX5_init_15) <|
  pg_i rfl (oi_putr (Y := m_X5_init) (pc := 17) (f := 4) kX5 (by decide) (Or.inr ⟨rfl, rfl⟩) (fun _ => ⟨rfl, rfl⟩) tw_215 dX5_init_17) <|
  pg_i rfl (oi_aload (Y := m_X5_init) (pc := 20) 0 dX5_init_20) <|
  pg_i rfl (oi_bipush (Y := m_X5_init) (pc := 21) (9) (by decide +kernel) dX5_init_21) <|
  pg_i rfl (oi_newa (Y := m_X5_init) (pc := 23) tw_144 dX5_init_23) <|
  pg_i rfl (oi_putr (Y := m_X5_init) (pc := 25) (f := 5) kX5 (by decide) (Or.inr ⟨rfl, rfl⟩) (fun _ => ⟨rfl, rfl⟩) tw_216 dX5_init_25) <|
  pg_i rfl (oi_aload (Y := m_X5_init) (pc := 28) 0 dX5_init_28) <|
  pg_i rfl (oi_bipush (Y := m_X5_init) (pc := 29) (9) (by decide +kernel) dX5_init_29) <|
  pg_i rfl (oi_newa (Y := m_X5_init) (pc := 31) tw_144 dX5_init_31) <|
  pg_i rfl (oi_putr (Y := m_X5_init) (pc := 33) (f := 6) kX5 (by decide) (Or.inr ⟨rfl, rfl⟩) (fun _ => ⟨rfl, rfl⟩) tw_217 dX5_init_33) <|
  pg_r rfl (dX5_init_36) <|
  pg_nil
abbrev m_X6_init : Mth := (yX6_init, cX6_init, 1, none, 1)
theorem yf_X6_init : YF m_X6_init 0 := ⟨tw_390, tw_73, by decide +kernel, by decide +kernel⟩
def pg_X6 : List (Nat × Mi) := [(0, 0, 0, 0, 1, 0), (1, 19, 0, 0, 4, 0), (4, 0, 0, 0, 5, 0), (5, 4, 0, 0, 6, (-1)), (6, 13, 6, 0, 9, 0), (9, 0, 0, 0, 10, 0), (10, 4, 0, 0, 11, 0), (11, 13, 6, 1, 14, 0), (14, 0, 0, 0, 15, 0), (15, 4, 0, 0, 17, 24), (17, 11, 0, 0, 19, 0), (19, 14, 6, 2, 22, 0), (22, 22, 0, 0, 0, 0)]
theorem po_X6 {l : Launch} {g : Gam} {b mc ms : Nat} {rec : Rc}  : PgOk l g b m_X6_init mc ms rec pg_X6 :=
  pg_i rfl (oi_aload (Y := m_X6_init) (pc := 0) 0 dX6_init_0) <|
  pg_i rfl (oi_obj (Y := m_X6_init) (pc := 1) (by decide) ⟨tw_391, tw_89, tw_90⟩ dX6_init_1) <|
  pg_i rfl (oi_aload (Y := m_X6_init) (pc := 4) 0 dX6_init_4) <|
  pg_i rfl (oi_iconst (Y := m_X6_init) (pc := 5) (-1) (by decide +kernel) dX6_init_5) <|
  pg_i rfl (oi_puti (Y := m_X6_init) (pc := 6) (f := 0) kX6 (by decide) (Or.inl rfl) rfl tw_392 dX6_init_6) <|
  pg_i rfl (oi_aload (Y := m_X6_init) (pc := 9) 0 dX6_init_9) <|
  pg_i rfl (oi_iconst (Y := m_X6_init) (pc := 10) (0) (by decide +kernel) dX6_init_10) <|
  pg_i rfl (oi_puti (Y := m_X6_init) (pc := 11) (f := 1) kX6 (by decide) (Or.inl rfl) rfl tw_394 dX6_init_11) <|
  pg_i rfl (oi_aload (Y := m_X6_init) (pc := 14) 0 dX6_init_14) <|
  pg_i rfl (oi_bipush (Y := m_X6_init) (pc := 15) (24) (by decide +kernel) dX6_init_15) <|
  pg_i rfl (oi_newa (Y := m_X6_init) (pc := 17) tw_144 dX6_init_17) <|
  pg_i rfl (oi_putr (Y := m_X6_init) (pc := 19) (f := 2) kX6 (by decide) (Or.inr ⟨rfl, rfl⟩) (fun _ => ⟨rfl, rfl⟩) tw_396 dX6_init_19) <|
  pg_r rfl (dX6_init_22) <|
  pg_nil
abbrev m_X8_init : Mth := (yX8_init, cX8_init, 1, none, 1)
theorem yf_X8_init : YF m_X8_init 0 := ⟨tw_245, tw_70, by decide +kernel, by decide +kernel⟩
def pg_X8 : List (Nat × Mi) := [(0, 0, 0, 0, 1, 0), (1, 19, 0, 0, 4, 0), (4, 0, 0, 0, 5, 0), (5, 4, 0, 0, 7, 96), (7, 11, 0, 0, 9, 0), (9, 14, 8, 4, 12, 0), (12, 22, 0, 0, 0, 0)]
theorem po_X8 {l : Launch} {g : Gam} {b mc ms : Nat} {rec : Rc}  : PgOk l g b m_X8_init mc ms rec pg_X8 :=
  pg_i rfl (oi_aload (Y := m_X8_init) (pc := 0) 0 dX8_init_0) <|
  pg_i rfl (oi_obj (Y := m_X8_init) (pc := 1) (by decide) ⟨tw_246, tw_89, tw_90⟩ dX8_init_1) <|
  pg_i rfl (oi_aload (Y := m_X8_init) (pc := 4) 0 dX8_init_4) <|
  pg_i rfl (oi_bipush (Y := m_X8_init) (pc := 5) (96) (by decide +kernel) dX8_init_5) <|
  pg_i rfl (oi_newa (Y := m_X8_init) (pc := 7) tw_144 dX8_init_7) <|
  pg_i rfl (oi_putr (Y := m_X8_init) (pc := 9) (f := 4) kX8 (by decide) (Or.inr ⟨rfl, rfl⟩) (fun _ => ⟨rfl, rfl⟩) tw_256 dX8_init_9) <|
  pg_r rfl (dX8_init_12) <|
  pg_nil
abbrev m_X10_init : Mth := (yX10_init, cX10_init, 2, none, 1)
theorem yf_X10_init : YF m_X10_init 0 := ⟨tw_1068, tw_75, by decide +kernel, by decide +kernel⟩
def pg_X10 : List (Nat × Mi) := [(0, 0, 0, 0, 1, 0), (1, 19, 0, 0, 4, 0), (4, 0, 0, 0, 5, 0), (5, 4, 0, 0, 8, 3300), (8, 11, 0, 0, 10, 0), (10, 14, 10, 0, 13, 0), (13, 0, 0, 0, 14, 0), (14, 4, 0, 0, 17, 3300), (17, 11, 0, 0, 19, 0), (19, 14, 10, 1, 22, 0), (22, 0, 0, 0, 23, 0), (23, 4, 0, 0, 26, 3300), (26, 11, 0, 0, 28, 0), (28, 14, 10, 2, 31, 0), (31, 0, 0, 0, 32, 0), (32, 4, 0, 0, 33, 4), (33, 11, 0, 0, 35, 0), (35, 14, 10, 4, 38, 0), (38, 0, 0, 0, 39, 0), (39, 4, 0, 0, 40, 4), (40, 11, 0, 0, 42, 0), (42, 14, 10, 5, 45, 0), (45, 0, 0, 0, 46, 0), (46, 4, 0, 0, 48, 96), (48, 11, 0, 0, 50, 0), (50, 14, 10, 6, 53, 0), (53, 0, 0, 0, 54, 0), (54, 4, 0, 0, 55, 5), (55, 11, 0, 0, 57, 0), (57, 14, 10, 7, 60, 0), (60, 0, 0, 0, 61, 0), (61, 4, 0, 0, 62, 5), (62, 11, 0, 0, 64, 0), (64, 14, 10, 8, 67, 0), (67, 0, 0, 0, 68, 0), (68, 4, 0, 0, 69, 5), (69, 11, 0, 0, 71, 0), (71, 14, 10, 9, 74, 0), (74, 0, 0, 0, 75, 0), (75, 4, 0, 0, 76, 5), (76, 11, 0, 0, 78, 0), (78, 14, 10, 10, 81, 0), (81, 0, 0, 0, 82, 0), (82, 4, 0, 0, 84, 120), (84, 11, 0, 0, 86, 0), (86, 14, 10, 11, 89, 0), (89, 0, 0, 0, 90, 0), (90, 4, 0, 0, 92, 96), (92, 11, 0, 0, 94, 0), (94, 14, 10, 12, 97, 0), (97, 0, 0, 0, 98, 0), (98, 4, 0, 0, 101, 128), (101, 11, 0, 0, 103, 0), (103, 14, 10, 24, 106, 0), (106, 0, 0, 0, 107, 0), (107, 4, 0, 0, 109, 100), (109, 11, 0, 0, 111, 0), (111, 14, 10, 25, 114, 0), (114, 0, 0, 0, 115, 0), (115, 4, 0, 0, 117, 25), (117, 11, 0, 0, 119, 0), (119, 14, 10, 31, 122, 0), (122, 0, 0, 0, 123, 0), (123, 4, 0, 0, 124, 5), (124, 11, 0, 0, 126, 0), (126, 14, 10, 34, 129, 0), (129, 0, 0, 0, 130, 0), (130, 4, 0, 0, 131, 5), (131, 11, 0, 0, 133, 0), (133, 14, 10, 35, 136, 0), (136, 0, 0, 0, 137, 0), (137, 4, 0, 0, 139, 24), (139, 11, 0, 0, 141, 0), (141, 14, 10, 38, 144, 0), (144, 0, 0, 0, 145, 0), (145, 4, 0, 0, 147, 24), (147, 11, 0, 0, 149, 0), (149, 14, 10, 39, 152, 0), (152, 0, 0, 0, 153, 0), (153, 4, 0, 0, 155, 24), (155, 11, 0, 0, 157, 0), (157, 14, 10, 40, 160, 0), (160, 0, 0, 0, 161, 0), (161, 4, 0, 0, 164, 625), (164, 11, 0, 0, 166, 0), (166, 14, 10, 41, 169, 0), (169, 0, 0, 0, 170, 0), (170, 4, 0, 0, 172, 60), (172, 11, 0, 0, 174, 0), (174, 14, 10, 44, 177, 0), (177, 0, 0, 0, 178, 0), (178, 4, 0, 0, 180, 60), (180, 11, 0, 0, 182, 0), (182, 14, 10, 46, 185, 0), (185, 0, 0, 0, 186, 0), (186, 16, 10, 0, 189, 0), (189, 4, 0, 0, 190, 4), (190, 4, 0, 0, 191, 1), (191, 17, 0, 0, 192, 0), (192, 4, 0, 0, 193, 0), (193, 3, 1, 0, 194, 0), (194, 1, 1, 0, 195, 0), (195, 4, 0, 0, 197, 9), (197, 9, 0, 216, 200, 0), (200, 0, 0, 0, 201, 0), (201, 16, 10, 0, 204, 0), (204, 4, 0, 0, 206, 20), (206, 1, 1, 0, 207, 0), (207, 6, 0, 0, 208, 0), (208, 4, 0, 0, 209, (-1)), (209, 17, 0, 0, 210, 0), (210, 7, 1, 0, 213, 1), (213, 8, 0, 0, 194, 0), (216, 4, 0, 0, 217, 0), (217, 3, 1, 0, 218, 0), (218, 1, 1, 0, 219, 0), (219, 4, 0, 0, 220, 4), (220, 9, 0, 236, 223, 0), (223, 0, 0, 0, 224, 0), (224, 16, 10, 4, 227, 0), (227, 1, 1, 0, 228, 0), (228, 4, 0, 0, 229, (-1)), (229, 17, 0, 0, 230, 0), (230, 7, 1, 0, 233, 1), (233, 8, 0, 0, 218, 0), (236, 22, 0, 0, 0, 0)]
theorem po_X10 {l : Launch} {g : Gam} {b mc ms : Nat} {rec : Rc}  : PgOk l g b m_X10_init mc ms rec pg_X10 :=
  pg_i rfl (oi_aload (Y := m_X10_init) (pc := 0) 0 dX10_init_0) <|
  pg_i rfl (oi_obj (Y := m_X10_init) (pc := 1) (by decide) ⟨tw_1069, tw_89, tw_90⟩ dX10_init_1) <|
  pg_i rfl (oi_aload (Y := m_X10_init) (pc := 4) 0 dX10_init_4) <|
  pg_i rfl (oi_sipush (Y := m_X10_init) (pc := 5) (3300) (by decide +kernel) dX10_init_5) <|
  pg_i rfl (oi_newa (Y := m_X10_init) (pc := 8) tw_144 dX10_init_8) <|
  pg_i rfl (oi_putr (Y := m_X10_init) (pc := 10) (f := 0) kX10 (by decide) (Or.inr ⟨rfl, rfl⟩) (fun _ => ⟨rfl, rfl⟩) tw_1070 dX10_init_10) <|
  pg_i rfl (oi_aload (Y := m_X10_init) (pc := 13) 0 dX10_init_13) <|
  pg_i rfl (oi_sipush (Y := m_X10_init) (pc := 14) (3300) (by decide +kernel) dX10_init_14) <|
  pg_i rfl (oi_newa (Y := m_X10_init) (pc := 17) tw_144 dX10_init_17) <|
  pg_i rfl (oi_putr (Y := m_X10_init) (pc := 19) (f := 1) kX10 (by decide) (Or.inr ⟨rfl, rfl⟩) (fun _ => ⟨rfl, rfl⟩) tw_1071 dX10_init_19) <|
  pg_i rfl (oi_aload (Y := m_X10_init) (pc := 22) 0 dX10_init_22) <|
  pg_i rfl (oi_sipush (Y := m_X10_init) (pc := 23) (3300) (by decide +kernel) dX10_init_23) <|
  pg_i rfl (oi_newa (Y := m_X10_init) (pc := 26) tw_144 dX10_init_26) <|
  pg_i rfl (oi_putr (Y := m_X10_init) (pc := 28) (f := 2) kX10 (by decide) (Or.inr ⟨rfl, rfl⟩) (fun _ => ⟨rfl, rfl⟩) tw_1072 dX10_init_28) <|
  pg_i rfl (oi_aload (Y := m_X10_init) (pc := 31) 0 dX10_init_31) <|
  pg_i rfl (oi_iconst (Y := m_X10_init) (pc := 32) (4) (by decide +kernel) dX10_init_32) <|
  pg_i rfl (oi_newa (Y := m_X10_init) (pc := 33) tw_144 dX10_init_33) <|
  pg_i rfl (oi_putr (Y := m_X10_init) (pc := 35) (f := 4) kX10 (by decide) (Or.inr ⟨rfl, rfl⟩) (fun _ => ⟨rfl, rfl⟩) tw_1074 dX10_init_35) <|
  pg_i rfl (oi_aload (Y := m_X10_init) (pc := 38) 0 dX10_init_38) <|
  pg_i rfl (oi_iconst (Y := m_X10_init) (pc := 39) (4) (by decide +kernel) dX10_init_39) <|
  pg_i rfl (oi_newa (Y := m_X10_init) (pc := 40) tw_144 dX10_init_40) <|
  pg_i rfl (oi_putr (Y := m_X10_init) (pc := 42) (f := 5) kX10 (by decide) (Or.inr ⟨rfl, rfl⟩) (fun _ => ⟨rfl, rfl⟩) tw_1075 dX10_init_42) <|
  pg_i rfl (oi_aload (Y := m_X10_init) (pc := 45) 0 dX10_init_45) <|
  pg_i rfl (oi_bipush (Y := m_X10_init) (pc := 46) (96) (by decide +kernel) dX10_init_46) <|
  pg_i rfl (oi_newa (Y := m_X10_init) (pc := 48) tw_144 dX10_init_48) <|
  pg_i rfl (oi_putr (Y := m_X10_init) (pc := 50) (f := 6) kX10 (by decide) (Or.inr ⟨rfl, rfl⟩) (fun _ => ⟨rfl, rfl⟩) tw_1076 dX10_init_50) <|
  pg_i rfl (oi_aload (Y := m_X10_init) (pc := 53) 0 dX10_init_53) <|
  pg_i rfl (oi_iconst (Y := m_X10_init) (pc := 54) (5) (by decide +kernel) dX10_init_54) <|
  pg_i rfl (oi_newa (Y := m_X10_init) (pc := 55) tw_144 dX10_init_55) <|
  pg_i rfl (oi_putr (Y := m_X10_init) (pc := 57) (f := 7) kX10 (by decide) (Or.inr ⟨rfl, rfl⟩) (fun _ => ⟨rfl, rfl⟩) tw_1077 dX10_init_57) <|
  pg_i rfl (oi_aload (Y := m_X10_init) (pc := 60) 0 dX10_init_60) <|
  pg_i rfl (oi_iconst (Y := m_X10_init) (pc := 61) (5) (by decide +kernel) dX10_init_61) <|
  pg_i rfl (oi_newa (Y := m_X10_init) (pc := 62) tw_144 dX10_init_62) <|
  pg_i rfl (oi_putr (Y := m_X10_init) (pc := 64) (f := 8) kX10 (by decide) (Or.inr ⟨rfl, rfl⟩) (fun _ => ⟨rfl, rfl⟩) tw_1078 dX10_init_64) <|
  pg_i rfl (oi_aload (Y := m_X10_init) (pc := 67) 0 dX10_init_67) <|
  pg_i rfl (oi_iconst (Y := m_X10_init) (pc := 68) (5) (by decide +kernel) dX10_init_68) <|
  pg_i rfl (oi_newa (Y := m_X10_init) (pc := 69) tw_144 dX10_init_69) <|
  pg_i rfl (oi_putr (Y := m_X10_init) (pc := 71) (f := 9) kX10 (by decide) (Or.inr ⟨rfl, rfl⟩) (fun _ => ⟨rfl, rfl⟩) tw_1079 dX10_init_71) <|
  pg_i rfl (oi_aload (Y := m_X10_init) (pc := 74) 0 dX10_init_74) <|
  pg_i rfl (oi_iconst (Y := m_X10_init) (pc := 75) (5) (by decide +kernel) dX10_init_75) <|
  pg_i rfl (oi_newa (Y := m_X10_init) (pc := 76) tw_144 dX10_init_76) <|
  pg_i rfl (oi_putr (Y := m_X10_init) (pc := 78) (f := 10) kX10 (by decide) (Or.inr ⟨rfl, rfl⟩) (fun _ => ⟨rfl, rfl⟩) tw_1080 dX10_init_78) <|
  pg_i rfl (oi_aload (Y := m_X10_init) (pc := 81) 0 dX10_init_81) <|
  pg_i rfl (oi_bipush (Y := m_X10_init) (pc := 82) (120) (by decide +kernel) dX10_init_82) <|
  pg_i rfl (oi_newa (Y := m_X10_init) (pc := 84) tw_144 dX10_init_84) <|
  pg_i rfl (oi_putr (Y := m_X10_init) (pc := 86) (f := 11) kX10 (by decide) (Or.inr ⟨rfl, rfl⟩) (fun _ => ⟨rfl, rfl⟩) tw_1081 dX10_init_86) <|
  pg_i rfl (oi_aload (Y := m_X10_init) (pc := 89) 0 dX10_init_89) <|
  pg_i rfl (oi_bipush (Y := m_X10_init) (pc := 90) (96) (by decide +kernel) dX10_init_90) <|
  pg_i rfl (oi_newa (Y := m_X10_init) (pc := 92) tw_144 dX10_init_92) <|
  pg_i rfl (oi_putr (Y := m_X10_init) (pc := 94) (f := 12) kX10 (by decide) (Or.inr ⟨rfl, rfl⟩) (fun _ => ⟨rfl, rfl⟩) tw_1082 dX10_init_94) <|
  pg_i rfl (oi_aload (Y := m_X10_init) (pc := 97) 0 dX10_init_97) <|
  pg_i rfl (oi_sipush (Y := m_X10_init) (pc := 98) (128) (by decide +kernel) dX10_init_98) <|
  pg_i rfl (oi_newa (Y := m_X10_init) (pc := 101) tw_144 dX10_init_101) <|
  pg_i rfl (oi_putr (Y := m_X10_init) (pc := 103) (f := 24) kX10 (by decide) (Or.inr ⟨rfl, rfl⟩) (fun _ => ⟨rfl, rfl⟩) tw_1094 dX10_init_103) <|
  pg_i rfl (oi_aload (Y := m_X10_init) (pc := 106) 0 dX10_init_106) <|
  pg_i rfl (oi_bipush (Y := m_X10_init) (pc := 107) (100) (by decide +kernel) dX10_init_107) <|
  pg_i rfl (oi_newa (Y := m_X10_init) (pc := 109) tw_144 dX10_init_109) <|
  pg_i rfl (oi_putr (Y := m_X10_init) (pc := 111) (f := 25) kX10 (by decide) (Or.inr ⟨rfl, rfl⟩) (fun _ => ⟨rfl, rfl⟩) tw_1095 dX10_init_111) <|
  pg_i rfl (oi_aload (Y := m_X10_init) (pc := 114) 0 dX10_init_114) <|
  pg_i rfl (oi_bipush (Y := m_X10_init) (pc := 115) (25) (by decide +kernel) dX10_init_115) <|
  pg_i rfl (oi_newa (Y := m_X10_init) (pc := 117) tw_144 dX10_init_117) <|
  pg_i rfl (oi_putr (Y := m_X10_init) (pc := 119) (f := 31) kX10 (by decide) (Or.inr ⟨rfl, rfl⟩) (fun _ => ⟨rfl, rfl⟩) tw_1101 dX10_init_119) <|
  pg_i rfl (oi_aload (Y := m_X10_init) (pc := 122) 0 dX10_init_122) <|
  pg_i rfl (oi_iconst (Y := m_X10_init) (pc := 123) (5) (by decide +kernel) dX10_init_123) <|
  pg_i rfl (oi_newa (Y := m_X10_init) (pc := 124) tw_144 dX10_init_124) <|
  pg_i rfl (oi_putr (Y := m_X10_init) (pc := 126) (f := 34) kX10 (by decide) (Or.inr ⟨rfl, rfl⟩) (fun _ => ⟨rfl, rfl⟩) tw_1104 dX10_init_126) <|
  pg_i rfl (oi_aload (Y := m_X10_init) (pc := 129) 0 dX10_init_129) <|
  pg_i rfl (oi_iconst (Y := m_X10_init) (pc := 130) (5) (by decide +kernel) dX10_init_130) <|
  pg_i rfl (oi_newa (Y := m_X10_init) (pc := 131) tw_144 dX10_init_131) <|
  pg_i rfl (oi_putr (Y := m_X10_init) (pc := 133) (f := 35) kX10 (by decide) (Or.inr ⟨rfl, rfl⟩) (fun _ => ⟨rfl, rfl⟩) tw_1105 dX10_init_133) <|
  pg_i rfl (oi_aload (Y := m_X10_init) (pc := 136) 0 dX10_init_136) <|
  pg_i rfl (oi_bipush (Y := m_X10_init) (pc := 137) (24) (by decide +kernel) dX10_init_137) <|
  pg_i rfl (oi_newa (Y := m_X10_init) (pc := 139) tw_144 dX10_init_139) <|
  pg_i rfl (oi_putr (Y := m_X10_init) (pc := 141) (f := 38) kX10 (by decide) (Or.inr ⟨rfl, rfl⟩) (fun _ => ⟨rfl, rfl⟩) tw_1108 dX10_init_141) <|
  pg_i rfl (oi_aload (Y := m_X10_init) (pc := 144) 0 dX10_init_144) <|
  pg_i rfl (oi_bipush (Y := m_X10_init) (pc := 145) (24) (by decide +kernel) dX10_init_145) <|
  pg_i rfl (oi_newa (Y := m_X10_init) (pc := 147) tw_144 dX10_init_147) <|
  pg_i rfl (oi_putr (Y := m_X10_init) (pc := 149) (f := 39) kX10 (by decide) (Or.inr ⟨rfl, rfl⟩) (fun _ => ⟨rfl, rfl⟩) tw_1109 dX10_init_149) <|
  pg_i rfl (oi_aload (Y := m_X10_init) (pc := 152) 0 dX10_init_152) <|
  pg_i rfl (oi_bipush (Y := m_X10_init) (pc := 153) (24) (by decide +kernel) dX10_init_153) <|
  pg_i rfl (oi_newa (Y := m_X10_init) (pc := 155) tw_144 dX10_init_155) <|
  pg_i rfl (oi_putr (Y := m_X10_init) (pc := 157) (f := 40) kX10 (by decide) (Or.inr ⟨rfl, rfl⟩) (fun _ => ⟨rfl, rfl⟩) tw_1110 dX10_init_157) <|
  pg_i rfl (oi_aload (Y := m_X10_init) (pc := 160) 0 dX10_init_160) <|
  pg_i rfl (oi_sipush (Y := m_X10_init) (pc := 161) (625) (by decide +kernel) dX10_init_161) <|
  pg_i rfl (oi_newa (Y := m_X10_init) (pc := 164) tw_144 dX10_init_164) <|
  pg_i rfl (oi_putr (Y := m_X10_init) (pc := 166) (f := 41) kX10 (by decide) (Or.inr ⟨rfl, rfl⟩) (fun _ => ⟨rfl, rfl⟩) tw_1111 dX10_init_166) <|
  pg_i rfl (oi_aload (Y := m_X10_init) (pc := 169) 0 dX10_init_169) <|
  pg_i rfl (oi_bipush (Y := m_X10_init) (pc := 170) (60) (by decide +kernel) dX10_init_170) <|
  pg_i rfl (oi_newa (Y := m_X10_init) (pc := 172) tw_144 dX10_init_172) <|
  pg_i rfl (oi_putr (Y := m_X10_init) (pc := 174) (f := 44) kX10 (by decide) (Or.inr ⟨rfl, rfl⟩) (fun _ => ⟨rfl, rfl⟩) tw_1114 dX10_init_174) <|
  pg_i rfl (oi_aload (Y := m_X10_init) (pc := 177) 0 dX10_init_177) <|
  pg_i rfl (oi_bipush (Y := m_X10_init) (pc := 178) (60) (by decide +kernel) dX10_init_178) <|
  pg_i rfl (oi_newa (Y := m_X10_init) (pc := 180) tw_144 dX10_init_180) <|
  pg_i rfl (oi_putr (Y := m_X10_init) (pc := 182) (f := 46) kX10 (by decide) (Or.inr ⟨rfl, rfl⟩) (fun _ => ⟨rfl, rfl⟩) tw_1116 dX10_init_182) <|
  pg_i rfl (oi_aload (Y := m_X10_init) (pc := 185) 0 dX10_init_185) <|
  pg_i rfl (oi_get (Y := m_X10_init) (pc := 186) (f := 0) kX10 (by decide) tw_1070 dX10_init_186) <|
  pg_i rfl (oi_iconst (Y := m_X10_init) (pc := 189) (4) (by decide +kernel) dX10_init_189) <|
  pg_i rfl (oi_iconst (Y := m_X10_init) (pc := 190) (1) (by decide +kernel) dX10_init_190) <|
  pg_i rfl (oi_iast (Y := m_X10_init) (pc := 191) dX10_init_191) <|
  pg_i rfl (oi_iconst (Y := m_X10_init) (pc := 192) (0) (by decide +kernel) dX10_init_192) <|
  pg_i rfl (oi_istore (Y := m_X10_init) (pc := 193) 1 (by decide) dX10_init_193) <|
  pg_i rfl (oi_iload (Y := m_X10_init) (pc := 194) 1 dX10_init_194) <|
  pg_i rfl (oi_bipush (Y := m_X10_init) (pc := 195) (9) (by decide +kernel) dX10_init_195) <|
  pg_i rfl (oi_icmp (Y := m_X10_init) (pc := 197) 216 (by decide) dX10_init_197) <|
  pg_i rfl (oi_aload (Y := m_X10_init) (pc := 200) 0 dX10_init_200) <|
  pg_i rfl (oi_get (Y := m_X10_init) (pc := 201) (f := 0) kX10 (by decide) tw_1070 dX10_init_201) <|
  pg_i rfl (oi_bipush (Y := m_X10_init) (pc := 204) (20) (by decide +kernel) dX10_init_204) <|
  pg_i rfl (oi_iload (Y := m_X10_init) (pc := 206) 1 dX10_init_206) <|
  pg_i rfl (oi_iadd (Y := m_X10_init) (pc := 207) dX10_init_207) <|
  pg_i rfl (oi_iconst (Y := m_X10_init) (pc := 208) (-1) (by decide +kernel) dX10_init_208) <|
  pg_i rfl (oi_iast (Y := m_X10_init) (pc := 209) dX10_init_209) <|
  pg_i rfl (oi_iinc (Y := m_X10_init) (pc := 210) (x := 1) (1) (by decide +kernel) (by decide) dX10_init_210) <|
  pg_i rfl (oi_goto (Y := m_X10_init) (pc := 213) 194 (by decide) dX10_init_213) <|
  pg_i rfl (oi_iconst (Y := m_X10_init) (pc := 216) (0) (by decide +kernel) dX10_init_216) <|
  pg_i rfl (oi_istore (Y := m_X10_init) (pc := 217) 1 (by decide) dX10_init_217) <|
  pg_i rfl (oi_iload (Y := m_X10_init) (pc := 218) 1 dX10_init_218) <|
  pg_i rfl (oi_iconst (Y := m_X10_init) (pc := 219) (4) (by decide +kernel) dX10_init_219) <|
  pg_i rfl (oi_icmp (Y := m_X10_init) (pc := 220) 236 (by decide) dX10_init_220) <|
  pg_i rfl (oi_aload (Y := m_X10_init) (pc := 223) 0 dX10_init_223) <|
  pg_i rfl (oi_get (Y := m_X10_init) (pc := 224) (f := 4) kX10 (by decide) tw_1074 dX10_init_224) <|
  pg_i rfl (oi_iload (Y := m_X10_init) (pc := 227) 1 dX10_init_227) <|
  pg_i rfl (oi_iconst (Y := m_X10_init) (pc := 228) (-1) (by decide +kernel) dX10_init_228) <|
  pg_i rfl (oi_iast (Y := m_X10_init) (pc := 229) dX10_init_229) <|
  pg_i rfl (oi_iinc (Y := m_X10_init) (pc := 230) (x := 1) (1) (by decide +kernel) (by decide) dX10_init_230) <|
  pg_i rfl (oi_goto (Y := m_X10_init) (pc := 233) 218 (by decide) dX10_init_233) <|
  pg_r rfl (dX10_init_236) <|
  pg_nil
abbrev m_X7_init : Mth := (yX7_init, cX7_init, 1, none, 2)
theorem yf_X7_init : YF m_X7_init 0 := ⟨tw_408, tw_74, by decide +kernel, by decide +kernel⟩
def pg_X7 : List (Nat × Mi) := [(0, 0, 0, 0, 1, 0), (1, 19, 0, 0, 4, 0), (4, 0, 0, 0, 5, 0), (5, 4, 0, 0, 6, 0), (6, 13, 7, 0, 9, 0), (9, 0, 0, 0, 10, 0), (10, 4, 0, 0, 11, 0), (11, 13, 7, 1, 14, 0), (14, 0, 0, 0, 15, 0), (15, 4, 0, 0, 16, 0), (16, 13, 7, 2, 19, 0), (19, 0, 0, 0, 20, 0), (20, 10, 6, 3, 23, 0), (23, 5, 0, 0, 24, 0), (24, 21, 6, 0, 27, 0), (27, 14, 7, 3, 30, 0), (30, 22, 0, 0, 0, 0)]
theorem po_X7 {l : Launch} {g : Gam} {b mc ms : Nat} {rec : Rc} (hX6 : ∀ As cs cs' kc nc, rec 6 As cs = some (cs', kc, nc) → CnG l g b m_X6_init kc nc As cs cs') : PgOk l g b m_X7_init mc ms rec pg_X7 :=
  pg_i rfl (oi_aload (Y := m_X7_init) (pc := 0) 0 dX7_init_0) <|
  pg_i rfl (oi_obj (Y := m_X7_init) (pc := 1) (by decide) ⟨tw_409, tw_89, tw_90⟩ dX7_init_1) <|
  pg_i rfl (oi_aload (Y := m_X7_init) (pc := 4) 0 dX7_init_4) <|
  pg_i rfl (oi_iconst (Y := m_X7_init) (pc := 5) (0) (by decide +kernel) dX7_init_5) <|
  pg_i rfl (oi_puti (Y := m_X7_init) (pc := 6) (f := 0) kX7 (by decide) (Or.inl rfl) rfl tw_412 dX7_init_6) <|
  pg_i rfl (oi_aload (Y := m_X7_init) (pc := 9) 0 dX7_init_9) <|
  pg_i rfl (oi_iconst (Y := m_X7_init) (pc := 10) (0) (by decide +kernel) dX7_init_10) <|
  pg_i rfl (oi_puti (Y := m_X7_init) (pc := 11) (f := 1) kX7 (by decide) (Or.inl rfl) rfl tw_414 dX7_init_11) <|
  pg_i rfl (oi_aload (Y := m_X7_init) (pc := 14) 0 dX7_init_14) <|
  pg_i rfl (oi_iconst (Y := m_X7_init) (pc := 15) (0) (by decide +kernel) dX7_init_15) <|
  pg_i rfl (oi_puti (Y := m_X7_init) (pc := 16) (f := 2) kX7 (by decide) (Or.inl rfl) rfl tw_416 dX7_init_16) <|
  pg_i rfl (oi_aload (Y := m_X7_init) (pc := 19) 0 dX7_init_19) <|
  pg_i rfl (oi_new (Y := m_X7_init) (pc := 20) kX6 ⟨tw_410, tw_387, tw_73⟩ dv_X6 dw_X6 dX7_init_20) <|
  pg_i rfl (oi_dup (Y := m_X7_init) (pc := 23) dX7_init_23) <|
  pg_c rfl ⟨m_X6_init, 21, yf_X6_init, by decide, rfl, rfl, tw_389, Or.inr ⟨_, nw_411⟩, dX7_init_24, rfl, hX6⟩ <|
  pg_i rfl (oi_putr (Y := m_X7_init) (pc := 27) (f := 3) kX7 (by decide) (Or.inr ⟨rfl, rfl⟩) (fun _ => ⟨rfl, rfl⟩) tw_418 dX7_init_27) <|
  pg_r rfl (dX7_init_30) <|
  pg_nil
abbrev m_X0_init : Mth := (yX0_init, cX0_init, 4, none, 2)
theorem yf_X0_init : YF m_X0_init 2 := ⟨tw_272, tw_71, by decide +kernel, by decide +kernel⟩
def pg_X0 : List (Nat × Mi) := [(0, 0, 0, 0, 1, 0), (1, 19, 0, 0, 4, 0), (4, 0, 0, 0, 5, 0), (5, 4, 0, 0, 7, 24), (7, 12, 2, 0, 10, 0), (10, 14, 0, 0, 13, 0), (13, 0, 0, 0, 14, 0), (14, 4, 0, 0, 16, 15), (16, 11, 0, 0, 18, 0), (18, 14, 0, 3, 21, 0), (21, 0, 0, 0, 22, 0), (22, 4, 0, 0, 23, 3), (23, 11, 0, 0, 25, 0), (25, 14, 0, 4, 28, 0), (28, 0, 0, 0, 29, 0), (29, 4, 0, 0, 31, 20), (31, 11, 0, 0, 33, 0), (33, 14, 0, 5, 36, 0), (36, 0, 0, 0, 37, 0), (37, 4, 0, 0, 38, 3), (38, 11, 0, 0, 40, 0), (40, 14, 0, 6, 43, 0), (43, 0, 0, 0, 44, 0), (44, 4, 0, 0, 45, 3), (45, 11, 0, 0, 47, 0), (47, 14, 0, 7, 50, 0), (50, 0, 0, 0, 51, 0), (51, 4, 0, 0, 53, 9), (53, 11, 0, 0, 55, 0), (55, 14, 0, 8, 58, 0), (58, 0, 0, 0, 59, 0), (59, 4, 0, 0, 60, 0), (60, 13, 0, 9, 63, 0), (63, 0, 0, 0, 64, 0), (64, 4, 0, 0, 65, 0), (65, 13, 0, 10, 68, 0), (68, 0, 0, 0, 69, 0), (69, 4, 0, 0, 70, 0), (70, 13, 0, 11, 73, 0), (73, 0, 0, 0, 74, 0), (74, 4, 0, 0, 75, 1), (75, 13, 0, 12, 78, 0), (78, 0, 0, 0, 79, 0), (79, 0, 1, 0, 80, 0), (80, 14, 0, 1, 83, 0), (83, 0, 0, 0, 84, 0), (84, 0, 2, 0, 85, 0), (85, 14, 0, 2, 88, 0), (88, 4, 0, 0, 89, 0), (89, 3, 3, 0, 90, 0), (90, 1, 3, 0, 91, 0), (91, 4, 0, 0, 93, 24), (93, 9, 0, 115, 96, 0), (96, 0, 0, 0, 97, 0), (97, 16, 0, 0, 100, 0), (100, 1, 3, 0, 101, 0), (101, 10, 2, 7, 104, 0), (104, 5, 0, 0, 105, 0), (105, 21, 2, 0, 108, 0), (108, 18, 2, 0, 109, 0), (109, 7, 3, 0, 112, 1), (112, 8, 0, 0, 90, 0), (115, 4, 0, 0, 116, 0), (116, 3, 3, 0, 117, 0), (117, 1, 3, 0, 118, 0), (118, 4, 0, 0, 119, 3), (119, 9, 0, 136, 122, 0), (122, 0, 0, 0, 123, 0), (123, 16, 0, 6, 126, 0), (126, 1, 3, 0, 127, 0), (127, 4, 0, 0, 129, 100), (129, 17, 0, 0, 130, 0), (130, 7, 3, 0, 133, 1), (133, 8, 0, 0, 117, 0), (136, 4, 0, 0, 137, 0), (137, 3, 3, 0, 138, 0), (138, 1, 3, 0, 139, 0), (139, 4, 0, 0, 141, 9), (141, 9, 0, 158, 144, 0), (144, 0, 0, 0, 145, 0), (145, 16, 0, 8, 148, 0), (148, 1, 3, 0, 149, 0), (149, 4, 0, 0, 151, (-1000000005)), (151, 17, 0, 0, 152, 0), (152, 7, 3, 0, 155, 1), (155, 8, 0, 0, 138, 0), (158, 22, 0, 0, 0, 0)]
theorem po_X0 {l : Launch} {g : Gam} {b mc ms : Nat} {rec : Rc} (hX2 : ∀ As cs cs' kc nc, rec 2 As cs = some (cs', kc, nc) → CnG l g b m_X2_init kc nc As cs cs') : PgOk l g b m_X0_init mc ms rec pg_X0 :=
  pg_i rfl (oi_aload (Y := m_X0_init) (pc := 0) 0 dX0_init_0) <|
  pg_i rfl (oi_obj (Y := m_X0_init) (pc := 1) (by decide) ⟨tw_273, tw_89, tw_90⟩ dX0_init_1) <|
  pg_i rfl (oi_aload (Y := m_X0_init) (pc := 4) 0 dX0_init_4) <|
  pg_i rfl (oi_bipush (Y := m_X0_init) (pc := 5) (24) (by decide +kernel) dX0_init_5) <|
  pg_i rfl (oi_anew (Y := m_X0_init) (pc := 7) (ec := 2) 1 rfl (by decide) tw_274 dX0_init_7) <|
  pg_i rfl (oi_putr (Y := m_X0_init) (pc := 10) (f := 0) kX0 (by decide) (Or.inr ⟨rfl, rfl⟩) (fun _ => ⟨rfl, rfl⟩) tw_329 dX0_init_10) <|
  pg_i rfl (oi_aload (Y := m_X0_init) (pc := 13) 0 dX0_init_13) <|
  pg_i rfl (oi_bipush (Y := m_X0_init) (pc := 14) (15) (by decide +kernel) dX0_init_14) <|
  pg_i rfl (oi_newa (Y := m_X0_init) (pc := 16) tw_144 dX0_init_16) <|
  pg_i rfl (oi_putr (Y := m_X0_init) (pc := 18) (f := 3) kX0 (by decide) (Or.inr ⟨rfl, rfl⟩) (fun _ => ⟨rfl, rfl⟩) tw_336 dX0_init_18) <|
  pg_i rfl (oi_aload (Y := m_X0_init) (pc := 21) 0 dX0_init_21) <|
  pg_i rfl (oi_iconst (Y := m_X0_init) (pc := 22) (3) (by decide +kernel) dX0_init_22) <|
  pg_i rfl (oi_newa (Y := m_X0_init) (pc := 23) tw_144 dX0_init_23) <|
  pg_i rfl (oi_putr (Y := m_X0_init) (pc := 25) (f := 4) kX0 (by decide) (Or.inr ⟨rfl, rfl⟩) (fun _ => ⟨rfl, rfl⟩) tw_339 dX0_init_25) <|
  pg_i rfl (oi_aload (Y := m_X0_init) (pc := 28) 0 dX0_init_28) <|
  pg_i rfl (oi_bipush (Y := m_X0_init) (pc := 29) (20) (by decide +kernel) dX0_init_29) <|
  pg_i rfl (oi_newa (Y := m_X0_init) (pc := 31) tw_144 dX0_init_31) <|
  pg_i rfl (oi_putr (Y := m_X0_init) (pc := 33) (f := 5) kX0 (by decide) (Or.inr ⟨rfl, rfl⟩) (fun _ => ⟨rfl, rfl⟩) tw_342 dX0_init_33) <|
  pg_i rfl (oi_aload (Y := m_X0_init) (pc := 36) 0 dX0_init_36) <|
  pg_i rfl (oi_iconst (Y := m_X0_init) (pc := 37) (3) (by decide +kernel) dX0_init_37) <|
  pg_i rfl (oi_newa (Y := m_X0_init) (pc := 38) tw_144 dX0_init_38) <|
  pg_i rfl (oi_putr (Y := m_X0_init) (pc := 40) (f := 6) kX0 (by decide) (Or.inr ⟨rfl, rfl⟩) (fun _ => ⟨rfl, rfl⟩) tw_344 dX0_init_40) <|
  pg_i rfl (oi_aload (Y := m_X0_init) (pc := 43) 0 dX0_init_43) <|
  pg_i rfl (oi_iconst (Y := m_X0_init) (pc := 44) (3) (by decide +kernel) dX0_init_44) <|
  pg_i rfl (oi_newa (Y := m_X0_init) (pc := 45) tw_144 dX0_init_45) <|
  pg_i rfl (oi_putr (Y := m_X0_init) (pc := 47) (f := 7) kX0 (by decide) (Or.inr ⟨rfl, rfl⟩) (fun _ => ⟨rfl, rfl⟩) tw_346 dX0_init_47) <|
  pg_i rfl (oi_aload (Y := m_X0_init) (pc := 50) 0 dX0_init_50) <|
  pg_i rfl (oi_bipush (Y := m_X0_init) (pc := 51) (9) (by decide +kernel) dX0_init_51) <|
  pg_i rfl (oi_newa (Y := m_X0_init) (pc := 53) tw_144 dX0_init_53) <|
  pg_i rfl (oi_putr (Y := m_X0_init) (pc := 55) (f := 8) kX0 (by decide) (Or.inr ⟨rfl, rfl⟩) (fun _ => ⟨rfl, rfl⟩) tw_348 dX0_init_55) <|
  pg_i rfl (oi_aload (Y := m_X0_init) (pc := 58) 0 dX0_init_58) <|
  pg_i rfl (oi_iconst (Y := m_X0_init) (pc := 59) (0) (by decide +kernel) dX0_init_59) <|
  pg_i rfl (oi_puti (Y := m_X0_init) (pc := 60) (f := 9) kX0 (by decide) (Or.inl rfl) rfl tw_350 dX0_init_60) <|
  pg_i rfl (oi_aload (Y := m_X0_init) (pc := 63) 0 dX0_init_63) <|
  pg_i rfl (oi_iconst (Y := m_X0_init) (pc := 64) (0) (by decide +kernel) dX0_init_64) <|
  pg_i rfl (oi_puti (Y := m_X0_init) (pc := 65) (f := 10) kX0 (by decide) (Or.inl rfl) rfl tw_354 dX0_init_65) <|
  pg_i rfl (oi_aload (Y := m_X0_init) (pc := 68) 0 dX0_init_68) <|
  pg_i rfl (oi_iconst (Y := m_X0_init) (pc := 69) (0) (by decide +kernel) dX0_init_69) <|
  pg_i rfl (oi_puti (Y := m_X0_init) (pc := 70) (f := 11) kX0 (by decide) (Or.inl rfl) rfl tw_356 dX0_init_70) <|
  pg_i rfl (oi_aload (Y := m_X0_init) (pc := 73) 0 dX0_init_73) <|
  pg_i rfl (oi_iconst (Y := m_X0_init) (pc := 74) (1) (by decide +kernel) dX0_init_74) <|
  pg_i rfl (oi_puti (Y := m_X0_init) (pc := 75) (f := 12) kX0 (by decide) (Or.inl rfl) rfl tw_358 dX0_init_75) <|
  pg_i rfl (oi_aload (Y := m_X0_init) (pc := 78) 0 dX0_init_78) <|
  pg_i rfl (oi_aload (Y := m_X0_init) (pc := 79) 1 dX0_init_79) <|
  pg_i rfl (oi_putr (Y := m_X0_init) (pc := 80) (f := 1) kX0 (by decide) (Or.inr ⟨rfl, rfl⟩) (fun _ => ⟨rfl, rfl⟩) tw_333 dX0_init_80) <|
  pg_i rfl (oi_aload (Y := m_X0_init) (pc := 83) 0 dX0_init_83) <|
  pg_i rfl (oi_aload (Y := m_X0_init) (pc := 84) 2 dX0_init_84) <|
  pg_i rfl (oi_putr (Y := m_X0_init) (pc := 85) (f := 2) kX0 (by decide) (Or.inr ⟨rfl, rfl⟩) (fun _ => ⟨rfl, rfl⟩) tw_335 dX0_init_85) <|
  pg_i rfl (oi_iconst (Y := m_X0_init) (pc := 88) (0) (by decide +kernel) dX0_init_88) <|
  pg_i rfl (oi_istore (Y := m_X0_init) (pc := 89) 3 (by decide) dX0_init_89) <|
  pg_i rfl (oi_iload (Y := m_X0_init) (pc := 90) 3 dX0_init_90) <|
  pg_i rfl (oi_bipush (Y := m_X0_init) (pc := 91) (24) (by decide +kernel) dX0_init_91) <|
  pg_i rfl (oi_icmp (Y := m_X0_init) (pc := 93) 115 (by decide) dX0_init_93) <|
  pg_i rfl (oi_aload (Y := m_X0_init) (pc := 96) 0 dX0_init_96) <|
  pg_i rfl (oi_get (Y := m_X0_init) (pc := 97) (f := 0) kX0 (by decide) tw_329 dX0_init_97) <|
  pg_i rfl (oi_iload (Y := m_X0_init) (pc := 100) 3 dX0_init_100) <|
  pg_i rfl (oi_new (Y := m_X0_init) (pc := 101) kX2 ⟨tw_274, tw_276, tw_72⟩ dv_X2 dw_X2 dX0_init_101) <|
  pg_i rfl (oi_dup (Y := m_X0_init) (pc := 104) dX0_init_104) <|
  pg_c rfl ⟨m_X2_init, 56, yf_X2_init, by decide, rfl, rfl, tw_278, Or.inr ⟨_, nw_277⟩, dX0_init_105, rfl, hX2⟩ <|
  pg_i rfl (oi_aast (Y := m_X0_init) (pc := 108) 1 rfl kX2 dX0_init_108) <|
  pg_i rfl (oi_iinc (Y := m_X0_init) (pc := 109) (x := 3) (1) (by decide +kernel) (by decide) dX0_init_109) <|
  pg_i rfl (oi_goto (Y := m_X0_init) (pc := 112) 90 (by decide) dX0_init_112) <|
  pg_i rfl (oi_iconst (Y := m_X0_init) (pc := 115) (0) (by decide +kernel) dX0_init_115) <|
  pg_i rfl (oi_istore (Y := m_X0_init) (pc := 116) 3 (by decide) dX0_init_116) <|
  pg_i rfl (oi_iload (Y := m_X0_init) (pc := 117) 3 dX0_init_117) <|
  pg_i rfl (oi_iconst (Y := m_X0_init) (pc := 118) (3) (by decide +kernel) dX0_init_118) <|
  pg_i rfl (oi_icmp (Y := m_X0_init) (pc := 119) 136 (by decide) dX0_init_119) <|
  pg_i rfl (oi_aload (Y := m_X0_init) (pc := 122) 0 dX0_init_122) <|
  pg_i rfl (oi_get (Y := m_X0_init) (pc := 123) (f := 6) kX0 (by decide) tw_344 dX0_init_123) <|
  pg_i rfl (oi_iload (Y := m_X0_init) (pc := 126) 3 dX0_init_126) <|
  pg_i rfl (oi_bipush (Y := m_X0_init) (pc := 127) (100) (by decide +kernel) dX0_init_127) <|
  pg_i rfl (oi_iast (Y := m_X0_init) (pc := 129) dX0_init_129) <|
  pg_i rfl (oi_iinc (Y := m_X0_init) (pc := 130) (x := 3) (1) (by decide +kernel) (by decide) dX0_init_130) <|
  pg_i rfl (oi_goto (Y := m_X0_init) (pc := 133) 117 (by decide) dX0_init_133) <|
  pg_i rfl (oi_iconst (Y := m_X0_init) (pc := 136) (0) (by decide +kernel) dX0_init_136) <|
  pg_i rfl (oi_istore (Y := m_X0_init) (pc := 137) 3 (by decide) dX0_init_137) <|
  pg_i rfl (oi_iload (Y := m_X0_init) (pc := 138) 3 dX0_init_138) <|
  pg_i rfl (oi_bipush (Y := m_X0_init) (pc := 139) (9) (by decide +kernel) dX0_init_139) <|
  pg_i rfl (oi_icmp (Y := m_X0_init) (pc := 141) 158 (by decide) dX0_init_141) <|
  pg_i rfl (oi_aload (Y := m_X0_init) (pc := 144) 0 dX0_init_144) <|
  pg_i rfl (oi_get (Y := m_X0_init) (pc := 145) (f := 8) kX0 (by decide) tw_348 dX0_init_145) <|
  pg_i rfl (oi_iload (Y := m_X0_init) (pc := 148) 3 dX0_init_148) <|
  pg_i rfl (oi_ldc (Y := m_X0_init) (pc := 149) (-1000000005) tw_328 dX0_init_149) <|
  pg_i rfl (oi_iast (Y := m_X0_init) (pc := 151) dX0_init_151) <|
  pg_i rfl (oi_iinc (Y := m_X0_init) (pc := 152) (x := 3) (1) (by decide +kernel) (by decide) dX0_init_152) <|
  pg_i rfl (oi_goto (Y := m_X0_init) (pc := 155) 138 (by decide) dX0_init_155) <|
  pg_r rfl (dX0_init_158) <|
  pg_nil
abbrev m_X9_init : Mth := (yX9_init, cX9_init, 4, none, 3)
theorem yf_X9_init : YF m_X9_init 0 := ⟨tw_87, tw_65, by decide +kernel, by decide +kernel⟩
def pg_X9 : List (Nat × Mi) := [(0, 0, 0, 0, 1, 0), (1, 19, 0, 0, 4, 0), (4, 0, 0, 0, 5, 0), (5, 10, 4, 13, 8, 0), (8, 5, 0, 0, 9, 0), (9, 21, 4, 0, 12, 0), (12, 14, 9, 0, 15, 0), (15, 0, 0, 0, 16, 0), (16, 10, 1, 5, 19, 0), (19, 5, 0, 0, 20, 0), (20, 21, 1, 0, 23, 0), (23, 14, 9, 3, 26, 0), (26, 0, 0, 0, 27, 0), (27, 10, 3, 7, 30, 0), (30, 5, 0, 0, 31, 0), (31, 21, 3, 0, 34, 0), (34, 14, 9, 4, 37, 0), (37, 0, 0, 0, 38, 0), (38, 10, 5, 8, 41, 0), (41, 5, 0, 0, 42, 0), (42, 21, 5, 0, 45, 0), (45, 14, 9, 5, 48, 0), (48, 0, 0, 0, 49, 0), (49, 4, 0, 0, 50, 4), (50, 12, 6, 0, 53, 0), (53, 14, 9, 6, 56, 0), (56, 0, 0, 0, 57, 0), (57, 4, 0, 0, 58, 5), (58, 12, 7, 0, 61, 0), (61, 14, 9, 7, 64, 0), (64, 0, 0, 0, 65, 0), (65, 4, 0, 0, 67, 25), (67, 11, 0, 0, 69, 0), (69, 14, 9, 8, 72, 0), (72, 0, 0, 0, 73, 0), (73, 4, 0, 0, 75, 60), (75, 11, 0, 0, 77, 0), (77, 14, 9, 9, 80, 0), (80, 0, 0, 0, 81, 0), (81, 4, 0, 0, 82, 0), (82, 13, 9, 10, 85, 0), (85, 0, 0, 0, 86, 0), (86, 4, 0, 0, 87, 0), (87, 15, 9, 11, 90, 0), (90, 4, 0, 0, 92, 14), (92, 12, 8, 0, 95, 0), (95, 2, 1, 0, 96, 0), (96, 4, 0, 0, 97, 0), (97, 3, 2, 0, 98, 0), (98, 1, 2, 0, 99, 0), (99, 4, 0, 0, 101, 14), (101, 9, 0, 120, 104, 0), (104, 0, 1, 0, 105, 0), (105, 1, 2, 0, 106, 0), (106, 10, 8, 5, 109, 0), (109, 5, 0, 0, 110, 0), (110, 21, 8, 0, 113, 0), (113, 18, 8, 0, 114, 0), (114, 7, 2, 0, 117, 1), (117, 8, 0, 0, 98, 0), (120, 4, 0, 0, 122, 96), (122, 11, 0, 0, 124, 0), (124, 2, 2, 0, 125, 0), (125, 0, 0, 0, 126, 0), (126, 10, 0, 13, 129, 0), (129, 5, 0, 0, 130, 0), (130, 0, 1, 0, 131, 0), (131, 0, 2, 0, 132, 0), (132, 21, 0, 2, 135, 0), (135, 14, 9, 1, 138, 0), (138, 0, 0, 0, 139, 0), (139, 10, 0, 13, 142, 0), (142, 5, 0, 0, 143, 0), (143, 0, 1, 0, 144, 0), (144, 0, 2, 0, 145, 0), (145, 21, 0, 2, 148, 0), (148, 14, 9, 2, 151, 0), (151, 4, 0, 0, 152, 0), (152, 3, 3, 0, 153, 0), (153, 1, 3, 0, 154, 0), (154, 4, 0, 0, 155, 4), (155, 9, 0, 177, 158, 0), (158, 0, 0, 0, 159, 0), (159, 16, 9, 6, 162, 0), (162, 1, 3, 0, 163, 0), (163, 10, 6, 3, 166, 0), (166, 5, 0, 0, 167, 0), (167, 21, 6, 0, 170, 0), (170, 18, 6, 0, 171, 0), (171, 7, 3, 0, 174, 1), (174, 8, 0, 0, 153, 0), (177, 4, 0, 0, 178, 0), (178, 3, 3, 0, 179, 0), (179, 1, 3, 0, 180, 0), (180, 4, 0, 0, 181, 5), (181, 9, 0, 203, 184, 0), (184, 0, 0, 0, 185, 0), (185, 16, 9, 7, 188, 0), (188, 1, 3, 0, 189, 0), (189, 10, 7, 4, 192, 0), (192, 5, 0, 0, 193, 0), (193, 21, 7, 0, 196, 0), (196, 18, 7, 0, 197, 0), (197, 7, 3, 0, 200, 1), (200, 8, 0, 0, 179, 0), (203, 22, 0, 0, 0, 0)]
theorem po_X9 {l : Launch} {g : Gam} {b mc ms : Nat} {rec : Rc} (hX0 : ∀ As cs cs' kc nc, rec 0 As cs = some (cs', kc, nc) → CnG l g b m_X0_init kc nc As cs cs') (hX1 : ∀ As cs cs' kc nc, rec 1 As cs = some (cs', kc, nc) → CnG l g b m_X1_init kc nc As cs cs') (hX3 : ∀ As cs cs' kc nc, rec 3 As cs = some (cs', kc, nc) → CnG l g b m_X3_init kc nc As cs cs') (hX4 : ∀ As cs cs' kc nc, rec 4 As cs = some (cs', kc, nc) → CnG l g b m_X4_init kc nc As cs cs') (hX5 : ∀ As cs cs' kc nc, rec 5 As cs = some (cs', kc, nc) → CnG l g b m_X5_init kc nc As cs cs') (hX6 : ∀ As cs cs' kc nc, rec 6 As cs = some (cs', kc, nc) → CnG l g b m_X6_init kc nc As cs cs') (hX7 : ∀ As cs cs' kc nc, rec 7 As cs = some (cs', kc, nc) → CnG l g b m_X7_init kc nc As cs cs') (hX8 : ∀ As cs cs' kc nc, rec 8 As cs = some (cs', kc, nc) → CnG l g b m_X8_init kc nc As cs cs') : PgOk l g b m_X9_init mc ms rec pg_X9 :=
  pg_i rfl (oi_aload (Y := m_X9_init) (pc := 0) 0 dX9_init_0) <|
  pg_i rfl (oi_obj (Y := m_X9_init) (pc := 1) (by decide) ⟨tw_88, tw_89, tw_90⟩ dX9_init_1) <|
  pg_i rfl (oi_aload (Y := m_X9_init) (pc := 4) 0 dX9_init_4) <|
  pg_i rfl (oi_new (Y := m_X9_init) (pc := 5) kX4 ⟨tw_91, tw_92, tw_66⟩ dv_X4 dw_X4 dX9_init_5) <|
  pg_i rfl (oi_dup (Y := m_X9_init) (pc := 8) dX9_init_8) <|
  pg_c rfl ⟨m_X4_init, 9, yf_X4_init, by decide, rfl, rfl, tw_94, Or.inr ⟨_, nw_93⟩, dX9_init_9, rfl, hX4⟩ <|
  pg_i rfl (oi_putr (Y := m_X9_init) (pc := 12) (f := 0) kX9 (by decide) (Or.inr ⟨rfl, rfl⟩) (fun _ => ⟨rfl, rfl⟩) tw_429 dX9_init_12) <|
  pg_i rfl (oi_aload (Y := m_X9_init) (pc := 15) 0 dX9_init_15) <|
  pg_i rfl (oi_new (Y := m_X9_init) (pc := 16) kX1 ⟨tw_145, tw_146, tw_67⟩ dv_X1 dw_X1 dX9_init_16) <|
  pg_i rfl (oi_dup (Y := m_X9_init) (pc := 19) dX9_init_19) <|
  pg_c rfl ⟨m_X1_init, 18, yf_X1_init, by decide, rfl, rfl, tw_148, Or.inr ⟨_, nw_147⟩, dX9_init_20, rfl, hX1⟩ <|
  pg_i rfl (oi_putr (Y := m_X9_init) (pc := 23) (f := 3) kX9 (by decide) (Or.inr ⟨rfl, rfl⟩) (fun _ => ⟨rfl, rfl⟩) tw_432 dX9_init_23) <|
  pg_i rfl (oi_aload (Y := m_X9_init) (pc := 26) 0 dX9_init_26) <|
  pg_i rfl (oi_new (Y := m_X9_init) (pc := 27) kX3 ⟨tw_171, tw_172, tw_68⟩ dv_X3 dw_X3 dX9_init_27) <|
  pg_i rfl (oi_dup (Y := m_X9_init) (pc := 30) dX9_init_30) <|
  pg_c rfl ⟨m_X3_init, 25, yf_X3_init, by decide, rfl, rfl, tw_174, Or.inr ⟨_, nw_173⟩, dX9_init_31, rfl, hX3⟩ <|
  pg_i rfl (oi_putr (Y := m_X9_init) (pc := 34) (f := 4) kX9 (by decide) (Or.inr ⟨rfl, rfl⟩) (fun _ => ⟨rfl, rfl⟩) tw_433 dX9_init_34) <|
  pg_i rfl (oi_aload (Y := m_X9_init) (pc := 37) 0 dX9_init_37) <|
  pg_i rfl (oi_new (Y := m_X9_init) (pc := 38) kX5 ⟨tw_202, tw_203, tw_69⟩ dv_X5 dw_X5 dX9_init_38) <|
  pg_i rfl (oi_dup (Y := m_X9_init) (pc := 41) dX9_init_41) <|
  pg_c rfl ⟨m_X5_init, 32, yf_X5_init, by decide, rfl, rfl, tw_205, Or.inr ⟨_, nw_204⟩, dX9_init_42, rfl, hX5⟩ <|
  pg_i rfl (oi_putr (Y := m_X9_init) (pc := 45) (f := 5) kX9 (by decide) (Or.inr ⟨rfl, rfl⟩) (fun _ => ⟨rfl, rfl⟩) tw_434 dX9_init_45) <|
  pg_i rfl (oi_aload (Y := m_X9_init) (pc := 48) 0 dX9_init_48) <|
  pg_i rfl (oi_iconst (Y := m_X9_init) (pc := 49) (4) (by decide +kernel) dX9_init_49) <|
  pg_i rfl (oi_anew (Y := m_X9_init) (pc := 50) (ec := 6) 3 rfl (by decide) tw_236 dX9_init_50) <|
  pg_i rfl (oi_putr (Y := m_X9_init) (pc := 53) (f := 6) kX9 (by decide) (Or.inr ⟨rfl, rfl⟩) (fun _ => ⟨rfl, rfl⟩) tw_435 dX9_init_53) <|
  pg_i rfl (oi_aload (Y := m_X9_init) (pc := 56) 0 dX9_init_56) <|
  pg_i rfl (oi_iconst (Y := m_X9_init) (pc := 57) (5) (by decide +kernel) dX9_init_57) <|
  pg_i rfl (oi_anew (Y := m_X9_init) (pc := 58) (ec := 7) 4 rfl (by decide) tw_238 dX9_init_58) <|
  pg_i rfl (oi_putr (Y := m_X9_init) (pc := 61) (f := 7) kX9 (by decide) (Or.inr ⟨rfl, rfl⟩) (fun _ => ⟨rfl, rfl⟩) tw_436 dX9_init_61) <|
  pg_i rfl (oi_aload (Y := m_X9_init) (pc := 64) 0 dX9_init_64) <|
  pg_i rfl (oi_bipush (Y := m_X9_init) (pc := 65) (25) (by decide +kernel) dX9_init_65) <|
  pg_i rfl (oi_newa (Y := m_X9_init) (pc := 67) tw_144 dX9_init_67) <|
  pg_i rfl (oi_putr (Y := m_X9_init) (pc := 69) (f := 8) kX9 (by decide) (Or.inr ⟨rfl, rfl⟩) (fun _ => ⟨rfl, rfl⟩) tw_437 dX9_init_69) <|
  pg_i rfl (oi_aload (Y := m_X9_init) (pc := 72) 0 dX9_init_72) <|
  pg_i rfl (oi_bipush (Y := m_X9_init) (pc := 73) (60) (by decide +kernel) dX9_init_73) <|
  pg_i rfl (oi_newa (Y := m_X9_init) (pc := 75) tw_144 dX9_init_75) <|
  pg_i rfl (oi_putr (Y := m_X9_init) (pc := 77) (f := 9) kX9 (by decide) (Or.inr ⟨rfl, rfl⟩) (fun _ => ⟨rfl, rfl⟩) tw_438 dX9_init_77) <|
  pg_i rfl (oi_aload (Y := m_X9_init) (pc := 80) 0 dX9_init_80) <|
  pg_i rfl (oi_iconst (Y := m_X9_init) (pc := 81) (0) (by decide +kernel) dX9_init_81) <|
  pg_i rfl (oi_puti (Y := m_X9_init) (pc := 82) (f := 10) kX9 (by decide) (Or.inl rfl) rfl tw_439 dX9_init_82) <|
  pg_i rfl (oi_aload (Y := m_X9_init) (pc := 85) 0 dX9_init_85) <|
  pg_i rfl (oi_iconst (Y := m_X9_init) (pc := 86) (0) (by decide +kernel) dX9_init_86) <|
  pg_i rfl (oi_putz (Y := m_X9_init) (pc := 87) (f := 11) kX9 (by decide) (Or.inl rfl) rfl tw_440 dX9_init_87) <|
  pg_i rfl (oi_bipush (Y := m_X9_init) (pc := 90) (14) (by decide +kernel) dX9_init_90) <|
  pg_i rfl (oi_anew (Y := m_X9_init) (pc := 92) (ec := 8) 2 rfl (by decide) tw_240 dX9_init_92) <|
  pg_i rfl (oi_astore (Y := m_X9_init) (pc := 95) 1 (by decide) dX9_init_95) <|
  pg_i rfl (oi_iconst (Y := m_X9_init) (pc := 96) (0) (by decide +kernel) dX9_init_96) <|
  pg_i rfl (oi_istore (Y := m_X9_init) (pc := 97) 2 (by decide) dX9_init_97) <|
  pg_i rfl (oi_iload (Y := m_X9_init) (pc := 98) 2 dX9_init_98) <|
  pg_i rfl (oi_bipush (Y := m_X9_init) (pc := 99) (14) (by decide +kernel) dX9_init_99) <|
  pg_i rfl (oi_icmp (Y := m_X9_init) (pc := 101) 120 (by decide) dX9_init_101) <|
  pg_i rfl (oi_aload (Y := m_X9_init) (pc := 104) 1 dX9_init_104) <|
  pg_i rfl (oi_iload (Y := m_X9_init) (pc := 105) 2 dX9_init_105) <|
  pg_i rfl (oi_new (Y := m_X9_init) (pc := 106) kX8 ⟨tw_240, tw_242, tw_70⟩ dv_X8 dw_X8 dX9_init_106) <|
  pg_i rfl (oi_dup (Y := m_X9_init) (pc := 109) dX9_init_109) <|
  pg_c rfl ⟨m_X8_init, 66, yf_X8_init, by decide, rfl, rfl, tw_244, Or.inr ⟨_, nw_243⟩, dX9_init_110, rfl, hX8⟩ <|
  pg_i rfl (oi_aast (Y := m_X9_init) (pc := 113) 2 rfl kX8 dX9_init_113) <|
  pg_i rfl (oi_iinc (Y := m_X9_init) (pc := 114) (x := 2) (1) (by decide +kernel) (by decide) dX9_init_114) <|
  pg_i rfl (oi_goto (Y := m_X9_init) (pc := 117) 98 (by decide) dX9_init_117) <|
  pg_i rfl (oi_bipush (Y := m_X9_init) (pc := 120) (96) (by decide +kernel) dX9_init_120) <|
  pg_i rfl (oi_newa (Y := m_X9_init) (pc := 122) tw_144 dX9_init_122) <|
  pg_i rfl (oi_astore (Y := m_X9_init) (pc := 124) 2 (by decide) dX9_init_124) <|
  pg_i rfl (oi_aload (Y := m_X9_init) (pc := 125) 0 dX9_init_125) <|
  pg_i rfl (oi_new (Y := m_X9_init) (pc := 126) kX0 ⟨tw_268, tw_269, tw_71⟩ dv_X0 dw_X0 dX9_init_126) <|
  pg_i rfl (oi_dup (Y := m_X9_init) (pc := 129) dX9_init_129) <|
  pg_i rfl (oi_aload (Y := m_X9_init) (pc := 130) 1 dX9_init_130) <|
  pg_i rfl (oi_aload (Y := m_X9_init) (pc := 131) 2 dX9_init_131) <|
  pg_c rfl ⟨m_X0_init, 69, yf_X0_init, by decide, rfl, rfl, tw_271, Or.inl tw_270, dX9_init_132, rfl, hX0⟩ <|
  pg_i rfl (oi_putr (Y := m_X9_init) (pc := 135) (f := 1) kX9 (by decide) (Or.inr ⟨rfl, rfl⟩) (fun _ => ⟨rfl, rfl⟩) tw_430 dX9_init_135) <|
  pg_i rfl (oi_aload (Y := m_X9_init) (pc := 138) 0 dX9_init_138) <|
  pg_i rfl (oi_new (Y := m_X9_init) (pc := 139) kX0 ⟨tw_268, tw_269, tw_71⟩ dv_X0 dw_X0 dX9_init_139) <|
  pg_i rfl (oi_dup (Y := m_X9_init) (pc := 142) dX9_init_142) <|
  pg_i rfl (oi_aload (Y := m_X9_init) (pc := 143) 1 dX9_init_143) <|
  pg_i rfl (oi_aload (Y := m_X9_init) (pc := 144) 2 dX9_init_144) <|
  pg_c rfl ⟨m_X0_init, 69, yf_X0_init, by decide, rfl, rfl, tw_271, Or.inl tw_270, dX9_init_145, rfl, hX0⟩ <|
  pg_i rfl (oi_putr (Y := m_X9_init) (pc := 148) (f := 2) kX9 (by decide) (Or.inr ⟨rfl, rfl⟩) (fun _ => ⟨rfl, rfl⟩) tw_431 dX9_init_148) <|
  pg_i rfl (oi_iconst (Y := m_X9_init) (pc := 151) (0) (by decide +kernel) dX9_init_151) <|
  pg_i rfl (oi_istore (Y := m_X9_init) (pc := 152) 3 (by decide) dX9_init_152) <|
  pg_i rfl (oi_iload (Y := m_X9_init) (pc := 153) 3 dX9_init_153) <|
  pg_i rfl (oi_iconst (Y := m_X9_init) (pc := 154) (4) (by decide +kernel) dX9_init_154) <|
  pg_i rfl (oi_icmp (Y := m_X9_init) (pc := 155) 177 (by decide) dX9_init_155) <|
  pg_i rfl (oi_aload (Y := m_X9_init) (pc := 158) 0 dX9_init_158) <|
  pg_i rfl (oi_get (Y := m_X9_init) (pc := 159) (f := 6) kX9 (by decide) tw_435 dX9_init_159) <|
  pg_i rfl (oi_iload (Y := m_X9_init) (pc := 162) 3 dX9_init_162) <|
  pg_i rfl (oi_new (Y := m_X9_init) (pc := 163) kX6 ⟨tw_236, tw_387, tw_73⟩ dv_X6 dw_X6 dX9_init_163) <|
  pg_i rfl (oi_dup (Y := m_X9_init) (pc := 166) dX9_init_166) <|
  pg_c rfl ⟨m_X6_init, 79, yf_X6_init, by decide, rfl, rfl, tw_389, Or.inr ⟨_, nw_388⟩, dX9_init_167, rfl, hX6⟩ <|
  pg_i rfl (oi_aast (Y := m_X9_init) (pc := 170) 3 rfl kX6 dX9_init_170) <|
  pg_i rfl (oi_iinc (Y := m_X9_init) (pc := 171) (x := 3) (1) (by decide +kernel) (by decide) dX9_init_171) <|
  pg_i rfl (oi_goto (Y := m_X9_init) (pc := 174) 153 (by decide) dX9_init_174) <|
  pg_i rfl (oi_iconst (Y := m_X9_init) (pc := 177) (0) (by decide +kernel) dX9_init_177) <|
  pg_i rfl (oi_istore (Y := m_X9_init) (pc := 178) 3 (by decide) dX9_init_178) <|
  pg_i rfl (oi_iload (Y := m_X9_init) (pc := 179) 3 dX9_init_179) <|
  pg_i rfl (oi_iconst (Y := m_X9_init) (pc := 180) (5) (by decide +kernel) dX9_init_180) <|
  pg_i rfl (oi_icmp (Y := m_X9_init) (pc := 181) 203 (by decide) dX9_init_181) <|
  pg_i rfl (oi_aload (Y := m_X9_init) (pc := 184) 0 dX9_init_184) <|
  pg_i rfl (oi_get (Y := m_X9_init) (pc := 185) (f := 7) kX9 (by decide) tw_436 dX9_init_185) <|
  pg_i rfl (oi_iload (Y := m_X9_init) (pc := 188) 3 dX9_init_188) <|
  pg_i rfl (oi_new (Y := m_X9_init) (pc := 189) kX7 ⟨tw_238, tw_405, tw_74⟩ dv_X7 dw_X7 dX9_init_189) <|
  pg_i rfl (oi_dup (Y := m_X9_init) (pc := 192) dX9_init_192) <|
  pg_c rfl ⟨m_X7_init, 80, yf_X7_init, by decide, rfl, rfl, tw_407, Or.inr ⟨_, nw_406⟩, dX9_init_193, rfl, hX7⟩ <|
  pg_i rfl (oi_aast (Y := m_X9_init) (pc := 196) 4 rfl kX7 dX9_init_196) <|
  pg_i rfl (oi_iinc (Y := m_X9_init) (pc := 197) (x := 3) (1) (by decide +kernel) (by decide) dX9_init_197) <|
  pg_i rfl (oi_goto (Y := m_X9_init) (pc := 200) 179 (by decide) dX9_init_200) <|
  pg_r rfl (dX9_init_203) <|
  pg_nil
