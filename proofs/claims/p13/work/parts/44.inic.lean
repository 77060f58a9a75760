/-! ===== the constructors' listings are the code's, and the law's first part is run ===== -/
def zoki (i : Nat) : Bool := (zopl i).all (fun q => zgi i q.1 q.2)
theorem zoki_0 : zoki 0 = true := by decide +kernel
theorem zoki_35 : zoki 35 = true := by decide +kernel
theorem zoki_77 : zoki 77 = true := by decide +kernel
theorem zoki_92 : zoki 92 = true := by decide +kernel
theorem zoki_95 : zoki 95 = true := by decide +kernel
theorem zoki_118 : zoki 118 = true := by decide +kernel
theorem zoki_119 : zoki 119 = true := by decide +kernel
def zoku (i : Nat) : Bool := decide (i ∈ [0, 35, 77, 92, 95, 118, 119]) || (zopl i).all (fun q => decide (q.2.1 < 70))
theorem zoku_all : (List.range 120).all zoku = true := by decide +kernel
theorem zgi_lt {i pc : Nat} {o : zO} (h : o.1 < 70) : zgi i pc o = true := by
  unfold zgi
  split <;> first | rfl | omega
theorem zoki_all : zOKi := by
  intro i pc o ho
  by_cases h : i < 120
  · have hu := List.all_eq_true.mp zoku_all i (List.mem_range.mpr h)
    unfold zoku at hu
    simp only [Bool.or_eq_true, decide_eq_true_eq] at hu
    rcases hu with hu | hu
    · have hz : zoki i = true := by
        simp only [List.mem_cons, List.mem_nil_iff, or_false] at hu
        rcases hu with rfl | rfl | rfl | rfl | rfl | rfl | rfl
        · exact zoki_0
        · exact zoki_35
        · exact zoki_77
        · exact zoki_92
        · exact zoki_95
        · exact zoki_118
        · exact zoki_119
      exact List.all_eq_true.mp hz _ (zopf_mem ho)
    · exact zgi_lt (of_decide_eq_true (List.all_eq_true.mp hu _ (zopf_mem ho)))
  · have h3 : zopl i = [] := by
      unfold zopl
      split <;> first | rfl | omega
    rw [h3] at ho
    cases ho
/-- the n-th cell, when it is new -/
def zalc (n : Nat) : zC := match zHL[n]? with
  | some c => (c.1, c.2.1, c.2.2.1, c.2.2.2.1, if c.1 = 2 then (if c.2.2.2.1 = 2 then [(0, 0, 0, 0)] else []) else if c.1 = 1 then List.replicate c.2.2.1 (0, 0, 0, 0) else List.replicate c.2.2.1 (1, 0, 0, 0))
  | none => (9, 0, 0, 0, [])
def zthI (lc : zL) (h : List zC) : Nat → zA := ztf (zthk 0 zcu119_23.2.2.1 (zprs zcu119_23.1 lc [] [] zcu119_23.2.1 h))
/-- the law's first part ends in the picture of its loop's head -/
def zli : zKi := fun pc lc st h nc ns => decide (pc = 23) && decide (st = []) && decide (nc ≤ 43) && decide (ns ≤ 17734) && zmt (zthI lc h) ([], [], []) lc [] h zcu119_23.1 [] zcu119_23.2.1 zcu119_23.2.2.1 && zcu119_23.2.2.2.2.2.2.all (fun q => decide (zsb (zthI lc h) q.1 = (0, 0, 0, 0)) && decide (zsb (zthI lc h) q.2 = (0, 0, 0, 0)) && zpl zcu119_23.2.2.1.length q.1 && zpl zcu119_23.2.2.1.length q.2)
theorem zli_run : zini zG zRul zalc 400 119 0 [(0, (2, 0, 43, 0))] [] [] 0 0 zli = true := by decide +kernel
