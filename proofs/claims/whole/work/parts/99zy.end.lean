/-! the pure part is whole -/
theorem pure_all : PureAll := fun S _ _ => ⟨RI S, ⟨fun _ _ _ hc hw hn => ok_put hc hw hn, fun _ _ hc hn => ok_cut hc hn, ok_load, ok_columns, fun _ hx => ok_type hx, fun _ _ hx hy => ok_isMissing hx hy, fun _ _ hx hy => ok_value hx hy, ok_ask, ok_fault, ok_lines, fun _ hx => ok_line hx, fun _ hx => ok_aggregate hx, fun _ hx => ok_write hx, fun _ hx => ok_out hx⟩, fun _ h => h.scr, RI_start S⟩
theorem i_vc : Claimed_1_1 ∧ Claimed_1_2 := i_of pure_all
