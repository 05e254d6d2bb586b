/-! ALL STEPS -/
theorem z_steps (F : Nat) (hF : 5000 ≤ F) : zSteps F 89 zSim :=
  ⟨zSim_less, zSim_apart, step_type F, step_clear F, step_put F hF, step_fault F, step_empty F hF, step_set F hF, step_node F hF, step_size F hF, step_join F hF, step_joinAll F hF, step_origin F hF, step_covers F hF, step_filled F hF, step_compare F hF, step_covered F hF, step_isLeast F hF, step_learn F hF, step_apply F hF, step_told F hF, step_undo F hF, step_digest F hF⟩
