/-! all calls -/
theorem ops_ok : OpsOK RelP := ⟨op_wood, op_tree, op_touch, op_type, op_clear, op_read, op_fell, op_season, op_undo, op_of, op_copy, op_byRow, op_soonest, op_whole, op_ways, op_put, op_meet, op_apart, op_most, op_note, op_came, op_forget, op_is, op_next, op_first, op_foresters, op_storms, op_forests, op_part, op_image, op_from, op_status, op_count, op_digest⟩
