/-! the words: what the Statement's tables say, with 'selects' of the private methods, as far as it stays over calls -/
abbrev Tb : List Cond := lw_tbl.filter goodWord
theorem tb_in {x : Cond} (i : Nat) (h : lw_tbl[i]? = some x) (g : goodWord x = true) : x ∈ Tb := List.mem_filter.mpr ⟨by first | exact List.mem_of_getElem? h | exact List.getElem?_mem h, g⟩
theorem tb_ok {ws : List Cond} (h : ∀ w ∈ ws, w ∈ Tb) : GoodIn Tb ws := fun w hw => ⟨h w hw, good_of_word (List.mem_filter.mp (h w hw)).2⟩
