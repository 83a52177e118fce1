/-! THE TABLES' WORDS that hold at every later state too -/
def TB : List Cond := lw_tbl.filter goodWord
theorem TB_in {w : Cond} (i : Nat) (h : lw_tbl[i]? = some w) (hg : goodWord w = true) : w ∈ TB := List.mem_filter.mpr ⟨List.mem_of_getElem? h, hg⟩
/-- the nest's own links -/
def nestW : List (String × Nat × MethodName × String) := lw_tbl.filterMap fun w => match w with
  | .methodLinkNest a i x h => some (a, i, x, h)
  | _ => none
theorem nestW_in {a : String} {i : Nat} {x : MethodName} {h : String} (j : Nat) (hj : lw_tbl[j]? = some (.methodLinkNest a i x h)) : (a, i, x, h) ∈ nestW := List.mem_filterMap.mpr ⟨_, List.mem_of_getElem? hj, rfl⟩
