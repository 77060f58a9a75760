/-! ===== the listing is the code's ===== -/
def zokm (i : Nat) : Bool := (zopl i).all (fun q => zgd i q.1 q.2 && (if q.2.1 = 50 ∨ q.2.1 = 51 then zgc i q.1 q.2 else true) && (if q.2.1 = 36 then zgt i q.1 q.2 else true))
theorem zopf_mem {l : List (Nat × zO)} {pc : Nat} {o : zO} (h : zopf l pc = some o) : (pc, o) ∈ l := by
  induction l with
  | nil => cases h
  | cons q r ih =>
    unfold zopf at h
    by_cases hq : q.1 = pc
    · rw [if_pos hq] at h
      cases h
      rw [← hq]
      exact List.mem_cons_self
    · rw [if_neg hq] at h
      exact List.mem_cons_of_mem _ (ih h)
theorem zokm_ok {i : Nat} (h : zokm i = true) (pc : Nat) (o : zO) (ho : zopf (zopl i) pc = some o) : zgd i pc o = true ∧ (o.1 = 50 ∨ o.1 = 51 → zgc i pc o = true) ∧ (o.1 = 36 → zgt i pc o = true) := by
  have := List.all_eq_true.mp h _ (zopf_mem ho)
  simp only [Bool.and_eq_true] at this
  refine ⟨this.1.1, fun hc => ?_, fun hc => ?_⟩
  · have h2 := this.1.2
    rw [if_pos hc] at h2
    exact h2
  · have h2 := this.2
    rw [if_pos hc] at h2
    exact h2
