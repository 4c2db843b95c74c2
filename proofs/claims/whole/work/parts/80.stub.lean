/-! still to prove -/
theorem op_plan_ok : op_plan Rel := sorry
theorem op_copy_ok : op_copy Rel := sorry
