/-! ===== what holds at the law's start ===== -/
def R_law : String := "LeaseQueueLaw"
def lw_P (b : Addr) (xs : List Int32) (args : Array Value) (s : State) : Prop := args = #[.ref b] ∧ s.IntsAt b xs ∧ xs.length ≤ 3072 ∧ (Jvm.Cond.and given_1 narrow_1).before args s = true
def lw_Q (_ : Array Value) (s : State) (o : Outcome) (t : State) : Prop := o = .returned (some (.int 1)) ∧ Framed s o t [] 601024 7293034
def lw_Z (below : List Frame) (a : Array Value) (s : State) : State → Prop := fun t => ∃ o, t.status = .running ∧ Ended t below o ∧ lw_Q a s o t
def lw_At (p : Program) (s : State) (m : MethodId) (meth : Method) (c : Code) (b L : Nat) (xs : Nat → Int32) : Prop :=
  p.tables.exec = Jvm.exec ∧ c.code = code ∧ meth.sig.returnType = ret ∧ c.maxLocals = 7 ∧ s.vm.findClass R_law = some m.cls ∧ (∀ w ∈ lw_tbl, w.before #[Value.ref b] s = true) ∧ va_X b L xs s s.heap ∧ b < s.heap.size ∧ meth.locks = false ∧ (Jvm.Cond.and given_1 narrow_1).before #[Value.ref b] s = true
theorem zinst : ∀ r ∈ vwCl, Cond.instantiable r.1 r.2.2 ∈ lw_tbl := by decide +kernel
section ZB
variable {s : State} {b : Nat}
theorem zb_D (hts : ∀ w ∈ lw_tbl, w.before #[Value.ref b] s = true) : ∃ D : va_G, ∀ (k : Nat) (q : vw_C), vwCl[k]? = some q → u_Kn s q.1 q.2.1 q.2.2 (D.1 k) (D.2 k) := by
  have key : ∀ (k : Nat) (q : vw_C), vwCl[k]? = some q → ∃ (cC : ClassId) (iS : Nat → Nat), u_Kn s q.1 q.2.1 q.2.2 cC iS := fun k q hq => u_known (ws := zTg) (fun w hw => hts w (List.mem_filter.mp hw).1) (zcl_ok k q hq).1 (hts (.instantiable q.1 q.2.2) (zinst q (List.mem_of_getElem? hq)))
  obtain ⟨c0, i0, k0⟩ := key 0 _ rfl
  obtain ⟨c1, i1, k1⟩ := key 1 _ rfl
  obtain ⟨c2, i2, k2⟩ := key 2 _ rfl
  obtain ⟨c3, i3, k3⟩ := key 3 _ rfl
  obtain ⟨c4, i4, k4⟩ := key 4 _ rfl
  refine ⟨(fun k => if k = 0 then c0 else if k = 1 then c1 else if k = 2 then c2 else if k = 3 then c3 else c4, fun k => if k = 0 then i0 else if k = 1 then i1 else if k = 2 then i2 else if k = 3 then i3 else i4), fun k q hq => ?_⟩
  match k, hq with
  | 0, hq => cases hq; exact k0
  | 1, hq => cases hq; exact k1
  | 2, hq => cases hq; exact k2
  | 3, hq => cases hq; exact k3
  | 4, hq => cases hq; exact k4
  | n + 5, hq => simp at hq
theorem zb_K (hts : ∀ w ∈ lw_tbl, w.before #[Value.ref b] s = true) : ∃ (D : va_G) (cy : Nat → ClassId), va_K D vwCl (ztys cy) s := by
  obtain ⟨D, hD⟩ := zb_D hts
  obtain ⟨a0, k0, p0, f0, g0, h0⟩ := Cond.arrayClass_spec (hts (.arrayClass .int) (by decide +kernel))
  obtain ⟨a1, k1, p1, f1, g1, h1⟩ := Cond.arrayClass_spec (hts (.arrayClass .long) (by decide +kernel))
  obtain ⟨p2, a2, k2, e2, -, g2, h2, f2⟩ := Cond.arrayOver_spec (hts (.arrayOver (.object RX1)) (by decide +kernel))
  obtain ⟨p3, a3, k3, e3, -, g3, h3, f3⟩ := zoa_spec (hts (.arrayOver (.array .int)) (by decide +kernel))
  refine ⟨D, fun k => if k = 0 then a0 else if k = 1 then a1 else if k = 2 then a2 else a3, hD, fun k q hq => ?_⟩
  match k, hq with
  | 0, hq => cases hq; exact ⟨fun n z => ⟨(fun q hq => by cases hq), k0, g0, p0, h0⟩, f0⟩
  | 1, hq => cases hq; exact ⟨fun n z => ⟨(fun q hq => by cases hq), k1, g1, p1, h1⟩, f1⟩
  | 2, hq => cases hq; exact ⟨fun n z => ⟨(fun q hq => by cases hq), k2, g2, p2, h2⟩, k2, p2, g2, h2, e2, f2⟩
  | 3, hq => cases hq; exact ⟨fun n z => ⟨(fun q hq => by cases hq), k3, g3, p3, h3⟩, f3⟩
  | n + 4, hq => simp [ztys] at hq
theorem zb_F2 (hts : ∀ w ∈ lw_tbl, w.before #[Value.ref b] s = true) : zF2 s := ⟨va_AO.of (hts (.arrayOver (.object RX1)) (by decide +kernel)), hts (.arrayOver (.array .int)) (by decide +kernel)⟩
theorem zb_F {A : Nat → Prop} (hts : ∀ w ∈ lw_tbl, w.before #[Value.ref b] s = true) (hgv : (Jvm.Cond.and given_1 narrow_1).before #[Value.ref b] s = true) (hA : ∀ a : Nat, a < s.heap.size → ¬ A a) : ∃ sa : Nat → Nat, zF sa A s := by
  have hgf := flat_of_before _ hgv
  obtain ⟨a0, _, _, _, e0, -⟩ := Cond.exactly_spec (hgf (Cond.exactly (.string RX3 210) "java/lang/String") (by decide +kernel))
  obtain ⟨a1, _, _, _, e1, -⟩ := Cond.exactly_spec (hgf (Cond.exactly (.string RX3 105) "java/lang/String") (by decide +kernel))
  obtain ⟨a2, _, _, _, e2, -⟩ := Cond.exactly_spec (hgf (Cond.exactly (.string RX3 68) "java/lang/String") (by decide +kernel))
  refine ⟨fun x => if x = 0 then a0 else if x = 1 then a1 else a2, fun x hx => ?_, ?_, ?_, fun w hw => ?_, fun q hq => ?_⟩
  · match x, hx with
    | 0, _ => exact vk_R.of (hts (.stringRef RX3 210 (ztx 0)) (by decide +kernel)) e0
    | 1, _ => exact vk_R.of (hts (.stringRef RX3 105 (ztx 1)) (by decide +kernel)) e1
    | 2, _ => exact vk_R.of (hts (.stringRef RX3 68 (ztx 2)) (by decide +kernel)) e2
    | n + 3, h => omega
  · exact vx_Zqof (hts (.laysStatic Bundle.tN "UNASSIGNED_STACK" Bundle.steD) (by decide +kernel)) (hts (.initialized Bundle.tN) (by decide +kernel)) (hgf (Cond.isRef (.static Bundle.tN "UNASSIGNED_STACK" Bundle.steD)) (by decide +kernel)) hA
  · exact vx_Zqof (hts (.laysStatic Bundle.tN "SUPPRESSED_SENTINEL" Bundle.listD) (by decide +kernel)) (hts (.initialized Bundle.tN) (by decide +kernel)) (hgf (Cond.isRef (.static Bundle.tN "SUPPRESSED_SENTINEL" Bundle.listD)) (by decide +kernel)) hA
  · have hw2 := List.mem_filter.mp hw
    exact va_Nw.of (by have hz := hw2.2; cases w <;> first | rfl | (simp [zFx] at hz)) (hts w hw2.1)
  · unfold zncs at hq
    rcases List.mem_cons.mp hq with rfl | hq
    · exact va_Nc.of (hgf (Cond.not (.castable (zen 2) (zen 0))) (by decide +kernel))
    · rw [List.mem_singleton.mp hq]
      exact va_Nc.of (hgf (Cond.not (.castable (zen 1) (zen 0))) (by decide +kernel))
end ZB
theorem zforget {s t : State} {L : List Loc} {k n : Nat} (h : s.sameButNew t L k n) (hf : ∀ q ∈ L, s.heap.size ≤ q.base) : s.sameButNew t [] k n := by
  refine ⟨h.1, h.2.1, h.2.2.1, h.2.2.2.1, h.2.2.2.2.1, fun a c hc => ?_⟩
  obtain ⟨c', h1, h2, h3, h4⟩ := h.2.2.2.2.2 a c hc
  refine ⟨c', h1, h2, h3, fun i _ => h4 i (fun hm => ?_)⟩
  have h5 : s.heap.size ≤ a := hf _ hm
  have h6 := (Array.getElem?_eq_some_iff.mp hc).1
  omega
