/-! still to prove -/
theorem op_plan_ok : op_plan Rel := sorry
