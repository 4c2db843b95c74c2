/-! still to prove -/
theorem op_best_ok : op_best Rel := sorry
theorem op_giveUp_ok : op_giveUp Rel := sorry
theorem op_plan_ok : op_plan Rel := sorry
theorem op_copy_ok : op_copy Rel := sorry
