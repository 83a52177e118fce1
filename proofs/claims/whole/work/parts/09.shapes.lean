theorem z01_0 : z01 0 = true := by decide +kernel
theorem z01_1 : z01 1 = true := by decide +kernel
def FU : Nat := 4000
def FR : Nat := 120
def shC : Shp := [(1, 9), (1, 4), (0, 96), (0, 96), (1, 1), (1, 3), (0, 5), (0, 25), (0, 5), (1, 5), (0, 24), (0, 24), (0, 9), (0, 9), (8, 4), (9, 5), (0, 25), (0, 60), (10, 14), (1, 8), (0, 96), (1, 8), (0, 96), (1, 8), (0, 96), (1, 8), (0, 96), (1, 8), (0, 96), (1, 8), (0, 96), (1, 8), (0, 96), (1, 8), (0, 96), (1, 8), (0, 96), (1, 8), (0, 96), (1, 8), (0, 96), (1, 8), (0, 96), (1, 8), (0, 96), (1, 8), (0, 96), (0, 96), (1, 0), (4, 24), (0, 15), (0, 3), (0, 20), (0, 3), (0, 3), (0, 9), (1, 2), (1, 2), (1, 2), (1, 2), (1, 2), (1, 2), (1, 2), (1, 2), (1, 2), (1, 2), (1, 2), (1, 2), (1, 2), (1, 2), (1, 2), (1, 2), (1, 2), (1, 2), (1, 2), (1, 2), (1, 2), (1, 2), (1, 2), (1, 2), (1, 0), (4, 24), (0, 15), (0, 3), (0, 20), (0, 3), (0, 3), (0, 9), (1, 2), (1, 2), (1, 2), (1, 2), (1, 2), (1, 2), (1, 2), (1, 2), (1, 2), (1, 2), (1, 2), (1, 2), (1, 2), (1, 2), (1, 2), (1, 2), (1, 2), (1, 2), (1, 2), (1, 2), (1, 2), (1, 2), (1, 2), (1, 2), (1, 6), (0, 24), (1, 6), (0, 24), (1, 6), (0, 24), (1, 6), (0, 24), (1, 7), (1, 6), (0, 24), (1, 7), (1, 6), (0, 24), (1, 7), (1, 6), (0, 24), (1, 7), (1, 6), (0, 24), (1, 7), (1, 6), (0, 24)]
def rfCL : List (List Nat) := [[1, 48, 80, 4, 5, 9, 14, 15, 16, 17, 0, 0], [2, 0, 0, 0, 0, 0, 0, 0, 0, 0, 0, 0, 3], [], [], [0, 0, 0, 0, 0], [0, 0, 6, 0, 0, 7, 8], [], [], [], [0, 0, 0, 10, 11, 12, 13, 0], [], [], [], [], [112, 114, 116, 118], [120, 123, 126, 129, 132], [], [], [19, 21, 23, 25, 27, 29, 31, 33, 35, 37, 39, 41, 43, 45], [0, 0, 0, 0, 20], [], [0, 0, 0, 0, 22], [], [0, 0, 0, 0, 24], [], [0, 0, 0, 0, 26], [], [0, 0, 0, 0, 28], [], [0, 0, 0, 0, 30], [], [0, 0, 0, 0, 32], [], [0, 0, 0, 0, 34], [], [0, 0, 0, 0, 36], [], [0, 0, 0, 0, 38], [], [0, 0, 0, 0, 40], [], [0, 0, 0, 0, 42], [], [0, 0, 0, 0, 44], [], [0, 0, 0, 0, 46], [], [], [49, 18, 47, 50, 51, 52, 53, 54, 55, 0, 0, 0, 0], [56, 57, 58, 59, 60, 61, 62, 63, 64, 65, 66, 67, 68, 69, 70, 71, 72, 73, 74, 75, 76, 77, 78, 79], [], [], [], [], [], [], [0, 0, 0, 0, 0, 0, 0], [0, 0, 0, 0, 0, 0, 0], [0, 0, 0, 0, 0, 0, 0], [0, 0, 0, 0, 0, 0, 0], [0, 0, 0, 0, 0, 0, 0], [0, 0, 0, 0, 0, 0, 0], [0, 0, 0, 0, 0, 0, 0], [0, 0, 0, 0, 0, 0, 0], [0, 0, 0, 0, 0, 0, 0], [0, 0, 0, 0, 0, 0, 0], [0, 0, 0, 0, 0, 0, 0], [0, 0, 0, 0, 0, 0, 0], [0, 0, 0, 0, 0, 0, 0], [0, 0, 0, 0, 0, 0, 0], [0, 0, 0, 0, 0, 0, 0], [0, 0, 0, 0, 0, 0, 0], [0, 0, 0, 0, 0, 0, 0], [0, 0, 0, 0, 0, 0, 0], [0, 0, 0, 0, 0, 0, 0], [0, 0, 0, 0, 0, 0, 0], [0, 0, 0, 0, 0, 0, 0], [0, 0, 0, 0, 0, 0, 0], [0, 0, 0, 0, 0, 0, 0], [0, 0, 0, 0, 0, 0, 0], [81, 18, 47, 82, 83, 84, 85, 86, 87, 0, 0, 0, 0], [88, 89, 90, 91, 92, 93, 94, 95, 96, 97, 98, 99, 100, 101, 102, 103, 104, 105, 106, 107, 108, 109, 110, 111], [], [], [], [], [], [], [0, 0, 0, 0, 0, 0, 0], [0, 0, 0, 0, 0, 0, 0], [0, 0, 0, 0, 0, 0, 0], [0, 0, 0, 0, 0, 0, 0], [0, 0, 0, 0, 0, 0, 0], [0, 0, 0, 0, 0, 0, 0], [0, 0, 0, 0, 0, 0, 0], [0, 0, 0, 0, 0, 0, 0], [0, 0, 0, 0, 0, 0, 0], [0, 0, 0, 0, 0, 0, 0], [0, 0, 0, 0, 0, 0, 0], [0, 0, 0, 0, 0, 0, 0], [0, 0, 0, 0, 0, 0, 0], [0, 0, 0, 0, 0, 0, 0], [0, 0, 0, 0, 0, 0, 0], [0, 0, 0, 0, 0, 0, 0], [0, 0, 0, 0, 0, 0, 0], [0, 0, 0, 0, 0, 0, 0], [0, 0, 0, 0, 0, 0, 0], [0, 0, 0, 0, 0, 0, 0], [0, 0, 0, 0, 0, 0, 0], [0, 0, 0, 0, 0, 0, 0], [0, 0, 0, 0, 0, 0, 0], [0, 0, 0, 0, 0, 0, 0], [0, 0, 113], [], [0, 0, 115], [], [0, 0, 117], [], [0, 0, 119], [], [0, 0, 0, 121], [0, 0, 122], [], [0, 0, 0, 124], [0, 0, 125], [], [0, 0, 0, 127], [0, 0, 128], [], [0, 0, 0, 130], [0, 0, 131], [], [0, 0, 0, 133], [0, 0, 134], []]
def rfC : Rfs := fun a k => (rfCL.getD a []).getD k 0
abbrev wC (b : Nat) : Wld := (b, shC, rfC)
def shM : Shp := [(1, 10), (0, 3300), (0, 3300), (0, 3300), (0, 4), (0, 4), (0, 96), (0, 5), (0, 5), (0, 5), (0, 5), (0, 120), (0, 96), (0, 128), (0, 100), (0, 25), (0, 5), (0, 5), (0, 24), (0, 24), (0, 24), (0, 625), (0, 60), (0, 60)]
def rfML : List (List Nat) := [[1, 2, 3, 0, 4, 5, 6, 7, 8, 9, 10, 11, 12, 0, 0, 0, 0, 0, 0, 0, 0, 0, 0, 0, 13, 14, 0, 0, 0, 0, 0, 15, 0, 0, 16, 17, 0, 0, 18, 19, 20, 21, 0, 0, 22, 0, 23], [], [], [], [], [], [], [], [], [], [], [], [], [], [], [], [], [], [], [], [], [], [], []]
def rfM : Rfs := fun a k => (rfML.getD a []).getD k 0
abbrev wM (b : Nat) : Wld := (b, shM, rfM)
def chkWT (sh : Shp) (rf : Rfs) : Bool := (List.range sh.length).all fun a => match sh.getD a (0, 0) with
  | (0, _) => true
  | (1, ci) => (List.range (nf ci)).all fun k => match ft ci k with
    | some sp => decide (sh[rf a k]? = some sp)
    | none => true
  | (e + 2, n) => (List.range n).all fun i => decide (sh[rf a i]? = some (1, e))
theorem WT_of {sh : Shp} {rf : Rfs} (h : chkWT sh rf = true) (b : Nat) : WT (b, sh, rf) := by
  have h1 : ∀ a sp, sh[a]? = some sp → a ∈ List.range sh.length ∧ sh.getD a (0, 0) = sp := fun a sp hs =>
    ⟨List.mem_range.mpr (List.getElem?_eq_some_iff.mp hs).1, by rw [List.getD_eq_getElem?_getD, hs]; rfl⟩
  refine ⟨fun a ci hs k sp hf => ?_, fun a e n hs i hi => ?_⟩
  · obtain ⟨h2, h3⟩ := h1 a _ hs
    have h4 := List.all_eq_true.mp h a h2
    rw [h3] at h4
    have hk : k < nf ci := by
      refine Nat.lt_of_not_le fun q => ?_
      have : ft ci k = none := by
        unfold ft
        rw [List.getD_eq_getElem?_getD, List.getElem?_eq_none (by exact q)]
        rfl
      rw [this] at hf
      cases hf
    have h5 := List.all_eq_true.mp h4 k (List.mem_range.mpr hk)
    simp only [hf] at h5
    exact of_decide_eq_true h5
  · obtain ⟨h2, h3⟩ := h1 a _ hs
    have h4 := List.all_eq_true.mp h a h2
    rw [h3] at h4
    exact of_decide_eq_true (List.all_eq_true.mp h4 i (List.mem_range.mpr hi))
theorem wtC : (∀ a ci, shC[a]? = some (1, ci) → ∀ k sp, ft ci k = some sp → shC[rfC a k]? = some sp) ∧ ∀ a e n, shC[a]? = some (e + 2, n) → ∀ i, i < n → shC[rfC a i]? = some (1, e) := WT_of (by decide +kernel) 0
theorem wtM : (∀ a ci, shM[a]? = some (1, ci) → ∀ k sp, ft ci k = some sp → shM[rfM a k]? = some sp) ∧ ∀ a e n, shM[a]? = some (e + 2, n) → ∀ i, i < n → shM[rfM a i]? = some (1, e) := WT_of (by decide +kernel) 0
theorem sC_0 : shC[0]? = some (1, 9) := rfl
theorem sC_1 : shC[1]? = some (1, 4) := rfl
theorem sC_2 : shC[2]? = some (0, 96) := rfl
theorem sC_3 : shC[3]? = some (0, 96) := rfl
theorem sC_4 : shC[4]? = some (1, 1) := rfl
theorem sC_5 : shC[5]? = some (1, 3) := rfl
theorem sC_6 : shC[6]? = some (0, 5) := rfl
theorem sC_7 : shC[7]? = some (0, 25) := rfl
theorem sC_8 : shC[8]? = some (0, 5) := rfl
theorem sC_9 : shC[9]? = some (1, 5) := rfl
theorem sC_10 : shC[10]? = some (0, 24) := rfl
theorem sC_11 : shC[11]? = some (0, 24) := rfl
theorem sC_12 : shC[12]? = some (0, 9) := rfl
theorem sC_13 : shC[13]? = some (0, 9) := rfl
theorem sC_14 : shC[14]? = some (8, 4) := rfl
theorem sC_15 : shC[15]? = some (9, 5) := rfl
theorem sC_16 : shC[16]? = some (0, 25) := rfl
theorem sC_17 : shC[17]? = some (0, 60) := rfl
theorem sC_18 : shC[18]? = some (10, 14) := rfl
theorem sC_48 : shC[48]? = some (1, 0) := rfl
theorem sC_49 : shC[49]? = some (4, 24) := rfl
theorem sC_50 : shC[50]? = some (0, 15) := rfl
theorem sC_51 : shC[51]? = some (0, 3) := rfl
theorem sC_52 : shC[52]? = some (0, 20) := rfl
theorem sC_53 : shC[53]? = some (0, 3) := rfl
theorem sC_54 : shC[54]? = some (0, 3) := rfl
theorem sC_55 : shC[55]? = some (0, 9) := rfl
theorem sC_80 : shC[80]? = some (1, 0) := rfl
theorem sM_0 : shM[0]? = some (1, 10) := rfl
theorem sM_1 : shM[1]? = some (0, 3300) := rfl
theorem sM_2 : shM[2]? = some (0, 3300) := rfl
theorem sM_3 : shM[3]? = some (0, 3300) := rfl
theorem sM_4 : shM[4]? = some (0, 4) := rfl
theorem sM_5 : shM[5]? = some (0, 4) := rfl
theorem sM_6 : shM[6]? = some (0, 96) := rfl
theorem sM_7 : shM[7]? = some (0, 5) := rfl
theorem sM_8 : shM[8]? = some (0, 5) := rfl
theorem sM_9 : shM[9]? = some (0, 5) := rfl
theorem sM_10 : shM[10]? = some (0, 5) := rfl
theorem sM_11 : shM[11]? = some (0, 120) := rfl
theorem sM_12 : shM[12]? = some (0, 96) := rfl
theorem sM_13 : shM[13]? = some (0, 128) := rfl
theorem sM_14 : shM[14]? = some (0, 100) := rfl
theorem sM_15 : shM[15]? = some (0, 25) := rfl
theorem sM_16 : shM[16]? = some (0, 5) := rfl
theorem sM_17 : shM[17]? = some (0, 5) := rfl
theorem sM_18 : shM[18]? = some (0, 24) := rfl
theorem sM_19 : shM[19]? = some (0, 24) := rfl
theorem sM_20 : shM[20]? = some (0, 24) := rfl
theorem sM_21 : shM[21]? = some (0, 625) := rfl
theorem sM_22 : shM[22]? = some (0, 60) := rfl
theorem sM_23 : shM[23]? = some (0, 60) := rfl
theorem kX0 : CF 0 RX0 TX0 13 tyX0 := ⟨rfl, rfl, inX0, tyX0_ok, nmX0⟩
theorem kX1 : CF 1 RX1 TX1 5 tyX1 := ⟨rfl, rfl, inX1, tyX1_ok, nmX1⟩
theorem kX2 : CF 2 RX2 TX2 7 tyX2 := ⟨rfl, rfl, inX2, tyX2_ok, nmX2⟩
theorem kX3 : CF 3 RX3 TX3 7 tyX3 := ⟨rfl, rfl, inX3, tyX3_ok, nmX3⟩
theorem kX4 : CF 4 RX4 TX4 13 tyX4 := ⟨rfl, rfl, inX4, tyX4_ok, nmX4⟩
theorem kX5 : CF 5 RX5 TX5 8 tyX5 := ⟨rfl, rfl, inX5, tyX5_ok, nmX5⟩
theorem kX6 : CF 6 RX6 TX6 3 tyX6 := ⟨rfl, rfl, inX6, tyX6_ok, nmX6⟩
theorem kX7 : CF 7 RX7 TX7 4 tyX7 := ⟨rfl, rfl, inX7, tyX7_ok, nmX7⟩
theorem kX8 : CF 8 RX8 TX8 5 tyX8 := ⟨rfl, rfl, inX8, tyX8_ok, nmX8⟩
theorem kX9 : CF 9 RX9 TX9 12 tyX9 := ⟨rfl, rfl, inX9, tyX9_ok, nmX9⟩
theorem kX10 : CF 10 RX10 TX10 47 tyX10 := ⟨rfl, rfl, inX10, tyX10_ok, nmX10⟩
