/-! the words that hold on the tables for every warmed state -/
def jT : List Cond := lw_tbl.filter goodWord
theorem jT_of {w : Cond} (i : Nat) (h : lw_tbl[i]? = some w) (hg : goodWord w = true) : w ∈ jT := List.mem_filter.mpr ⟨List.mem_of_getElem? h, hg⟩
