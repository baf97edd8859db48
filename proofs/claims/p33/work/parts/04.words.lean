/-- the tables' words that are handed on -/
def lw_g : List Cond := lw_tbl.filter goodWord
theorem lw_g_in {q : Cond} (h : q ∈ lw_tbl) (g : goodWord q = true) : q ∈ lw_g := List.mem_filter.mpr ⟨h, g⟩
theorem lw_g_of {q : Cond} (h : q ∈ lw_g) : q ∈ lw_tbl ∧ goodWord q = true := List.mem_filter.mp h
theorem lw_t_in {q : Cond} (h : q ∈ tables_1) : q ∈ lw_tbl := List.mem_append_right _ h
theorem lw_p_in {q : Cond} (h : q ∈ k2_sels lw_privs) : q ∈ lw_tbl := List.mem_append_left _ h
