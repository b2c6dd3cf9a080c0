-- the words that hold at every call
def mx_tbl : List Cond := lw_tbl.filter goodWord
theorem mx_in {w : Cond} (h : w ∈ lw_tbl) (g : goodWord w = true) : w ∈ mx_tbl := List.mem_filter.mpr ⟨h, g⟩
