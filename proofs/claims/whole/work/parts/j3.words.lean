/-! WORDS OF THE EXCEPTIONS -/
theorem thw_86 : ((vx_at0 "GameHall" 88 "java/lang/IllegalArgumentException" thN).filter goodWord).all (fun w => decide (w ∈ lw_tbl)) = true := by decide +kernel
theorem thw_114 : ((vx_at0 "GameHall" 116 "java/lang/IllegalStateException" thN).filter goodWord).all (fun w => decide (w ∈ lw_tbl)) = true := by decide +kernel
theorem thw_120 : ((vx_at0 "GameHall" 122 "java/lang/IndexOutOfBoundsException" thN).filter goodWord).all (fun w => decide (w ∈ lw_tbl)) = true := by decide +kernel
theorem thx_86 : ((vx_at0 "GameHall" 88 "java/lang/IllegalArgumentException" thN).filter (fun w => !goodWord w)).all (fun w => decide (w ∈ thB "java/lang/IllegalArgumentException")) = true := by decide +kernel
theorem thx_114 : ((vx_at0 "GameHall" 116 "java/lang/IllegalStateException" thN).filter (fun w => !goodWord w)).all (fun w => decide (w ∈ thB "java/lang/IllegalStateException")) = true := by decide +kernel
theorem thx_120 : ((vx_at0 "GameHall" 122 "java/lang/IndexOutOfBoundsException" thN).filter (fun w => !goodWord w)).all (fun w => decide (w ∈ thB "java/lang/IndexOutOfBoundsException")) = true := by decide +kernel
theorem tho_86 : (vx_at0 "GameHall" 88 "java/lang/IllegalArgumentException" thN).all vx_ot = true := by decide +kernel
theorem tho_114 : (vx_at0 "GameHall" 116 "java/lang/IllegalStateException" thN).all vx_ot = true := by decide +kernel
theorem tho_120 : (vx_at0 "GameHall" 122 "java/lang/IndexOutOfBoundsException" thN).all vx_ot = true := by decide +kernel
