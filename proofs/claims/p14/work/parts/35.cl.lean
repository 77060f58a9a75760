/-! ===== what the tables say of the classes ===== -/
theorem zcl_w : ∀ r ∈ vwCl, (u_ws r.1 r.2.1 r.2.2).all (fun w => decide (w ∈ lw_tbl) && goodWord w) = true := by decide +kernel
theorem zcl_ok : zCl := by
  intro ci r hr
  have hm := List.mem_of_getElem? hr
  refine ⟨fun w hw => ?_, ?_⟩
  · have := List.all_eq_true.mp (zcl_w r hm) w hw
    simp only [Bool.and_eq_true, decide_eq_true_eq] at this
    exact List.mem_filter.mpr ⟨this.1, this.2⟩
  · match ci, hr with
    | 0, hr => cases hr; exact ⟨tyX0, tyX0_ok, nmX0⟩
    | 1, hr => cases hr; exact ⟨tyX1, tyX1_ok, nmX1⟩
    | 2, hr => cases hr; exact ⟨tyX2, tyX2_ok, nmX2⟩
    | 3, hr => cases hr; exact ⟨tyX3, tyX3_ok, nmX3⟩
    | 4, hr => cases hr; exact ⟨tyX4, tyX4_ok, nmX4⟩
    | n + 5, hr => simp at hr
