/-! still to prove -/
theorem op_month_ok : op_month Rel := sorry
theorem op_least_ok : op_least Rel := sorry
theorem op_order_ok : op_order Rel := sorry
theorem op_best_ok : op_best Rel := sorry
theorem op_giveUp_ok : op_giveUp Rel := sorry
theorem op_first_ok : op_first Rel := sorry
theorem op_plan_ok : op_plan Rel := sorry
theorem op_copy_ok : op_copy Rel := sorry
