/-! ===== what a method may count on beside its world: texts, statics, words that aren't good ===== -/
def zen (x : Nat) : String := match x with
  | 0 => "java/lang/IllegalArgumentException"
  | 1 => "java/lang/IllegalStateException"
  | _ => "java/lang/UnsupportedOperationException"
def znames : List String := ["java/lang/RuntimeException", "java/lang/Exception"]
def zFx (w : Cond) : Bool := match w with
  | .castable .. => true
  | .declares .. => true
  | _ => false
def zTx : List Cond := lw_tbl.filter zFx
def zncs : List (String × String) := [(zen 2, zen 0), (zen 1, zen 0)]
def zF (sa : Nat → Nat) (A : Nat → Prop) (U : State) : Prop := (∀ x, x < 3 → vk_R RX3 (zsi x) (ztx x) (sa x) U) ∧ vx_Zq Bundle.tN "UNASSIGNED_STACK" Bundle.steD A U U.heap ∧ vx_Zq Bundle.tN "SUPPRESSED_SENTINEL" Bundle.listD A U U.heap ∧ (∀ w ∈ zTx, va_Nw w U) ∧ ∀ q ∈ zncs, va_Nc q.1 q.2 U
theorem zNw_warm {w : Cond} {s U : State} (h : zFx w = true) (hW : s.WarmedH U.vm) (hz : va_Nw w s) : va_Nw w U := by
  cases w <;> first | (exact va_Nw.warmC hW hz) | (exact va_Nw.warmD hW hz) | (simp [zFx] at h)
theorem zF_go {sa : Nat → Nat} {A : Nat → Prop} {s U : State} {H : Heap} {locs : List Loc} (h : zF sa A s) (hS : va_S A s.heap H locs) (hU : U.heap = H) (hW : s.WarmedH U.vm) : zF sa A U := by
  obtain ⟨h1, h2, h3, h4, h5⟩ := h
  refine ⟨fun x hx => vk_R.warm hW (h1 x hx), ?_, ?_, fun w hw => zNw_warm (List.mem_filter.mp hw).2 hW (h4 w hw), fun q hq => va_Nc.moved hW.alike (h5 q hq)⟩
  · rw [hU]; exact vx_Zq.moved hW.alike (h2.kept hS.2.1)
  · rw [hU]; exact vx_Zq.moved hW.alike (h3.kept hS.2.1)
theorem zF_bl {sa : Nat → Nat} {A : Nat → Prop} {U : State} (h : zF sa A U) (g : JFrame) (mk : MethodId) (a : Array Value) : zF sa A (U.calling g mk a) := by
  obtain ⟨h1, h2, h3, h4, h5⟩ := h
  refine ⟨fun x hx => vk_R.same (u := U) rfl (h1 x hx), vx_Zq.moved (u := U) (Vm.Alike.refl U.vm) h2, vx_Zq.moved (u := U) (Vm.Alike.refl U.vm) h3, fun w hw => ?_, fun q hq => va_Nc.moved (u := U) (Vm.Alike.refl U.vm) (h5 q hq)⟩
  have hz := (List.mem_filter.mp hw).2
  exact va_Nw.same (u := U) (by cases w <;> first | rfl | (simp [zFx] at hz)) rfl (h4 w hw)
/-- the listing is right at a throw -/
def zgt (i pc : Nat) (o : zO) : Bool := decide (decode (zcode i) pc = .ok (.new o.2.1.toNat, 3)) && decide (decode (zcode i) (pc + 3) = .ok (.dup, 1)) && decide (decode (zcode i) (pc + 4) = .ok (.ldc o.2.2.1, 2)) && decide (decode (zcode i) (pc + 6) = .ok (.invokespecial o.2.2.2.1, 3)) && decide (decode (zcode i) (pc + 9) = .ok (.athrow, 1)) &&
  decide (o.2.2.2.2.1 < 3) && decide (o.2.2.1 = zsi o.2.2.2.2.1) && decide ((zy i).cls = RX3) && zwd (o.2.2.2.2.2.getD 0 0) (.classLink RX3 o.2.1.toNat (zen o.2.2.2.2.1)) && zwd (o.2.2.2.2.2.getD 1 0) (.initialized (zen o.2.2.2.2.1)) &&
  (vx_atS RX3 o.2.2.2.1 (zen o.2.2.2.2.1) znames).all (fun w => decide (w ∈ lw_tbl) && (goodWord w || zFx w)) && Bundle.fit (zen o.2.2.2.2.1)
section ZW
variable {rul : Nat → List zI} {D : va_G} {cy : Nat → ClassId} {ad : Nat → Nat} {A : Nat → Prop} {nL : Nat} {e : Nat → Int} {lc : zL} {st : List zA} {h : List zC} {S : zS} {ws : va_W} {H : Heap} {locs : List Loc} {ls : Array Slot}
variable {p : Program} {l : Launch} {ev : Env} {R : Room} {s : State} {m : MethodId} {args : Array Value} {below : List Frame} {meth : Method} {c : Code} {cells slots : Nat} {pc i : Nat} {o : zO} {sa : Nat → Nat}
theorem zk_throw {Qc : Array Value → State → Outcome → State → Prop} {XC : String → State → State → Prop} {mc ms : Nat} (hx : p.tables.exec = Jvm.exec) (hb : c.code = zcode i) (hml : c.maxLocals = nL) (hown : s.vm.findClass (zy i).cls = some m.cls) (hts : ∀ w ∈ zTg, w.before args s = true) (hl : l.stackTraces = false) (hF : zF sa A s) (hlk : meth.locks = false) (hnt : ∀ x ∈ c.exceptionTable.toList, False)
    (hg : zgt i pc o = true) (hi : zInv rul D cy ad A nL s.heap e lc st h S ws H locs ls) (hRf : 5 < R.frames) (hRl : zwords st + 82 ≤ R.locals) (hRc : cells + 1 ≤ R.cells) (hRs : slots + 6 ≤ R.slots) (hmc : cells + 1 ≤ mc) (hms : slots + 6 ≤ ms)
    (hX : ∀ t : State, s.vm.Alike t.vm → H.size ≤ t.heap.size → (∀ q : Nat, q < H.size → t.heap[q]? = H[q]?) → XC (zen o.2.2.2.2.1) s t) : W p l ev R s m args below meth c H locs cells slots (vx_MQ below Qc XC args s mc ms A) (F0 m pc ls (zst e ad st)) := by
  unfold zgt at hg
  simp only [Bool.and_eq_true, decide_eq_true_eq] at hg
  obtain ⟨⟨⟨⟨⟨⟨⟨⟨⟨⟨⟨g0, g1⟩, g2⟩, g3⟩, g4⟩, g5⟩, g6⟩, g7⟩, g8⟩, g9⟩, g10⟩, g11⟩ := hg
  rw [g7] at hown
  have hw : ∀ w ∈ vx_atS RX3 o.2.2.2.1 (zen o.2.2.2.2.1) znames, w ∈ lw_tbl ∧ (goodWord w = true ∨ zFx w = true) := fun w hw => by
    have := List.all_eq_true.mp g10 w hw
    simp only [Bool.and_eq_true, Bool.or_eq_true, decide_eq_true_eq] at this
    exact this
  have hx2 : ∀ w : Cond, zFx w = true → w.onTables = true := fun w hz => by cases w <;> first | rfl | (simp [zFx] at hz)
  rw [g6] at g2
  refine vx_throwS (names := znames) hx hb hl hown g11 (by decide +kernel) (hts _ (zwd_in g8)) (hts _ (zwd_in g9)) (hF.1 _ g5) (fun w hw9 => ?_) (fun w hw9 => ?_) hF.2.1 hF.2.2.1 hi.2.2.2.2.2.2.2.1 (hi.2.2.2.2.2.2.2.2.1.trans hml.symm) g0 g1 g2 g3 g4 (fun x hx9 => (hnt x hx9).elim) hRf (by rw [zwords_ok]; exact hRl) hRc hRs hlk hX hi.2.2.2.2.2.2.2.1.2.2 hmc hms
  · obtain ⟨w1, w2⟩ := hw w hw9
    rcases w2 with w2 | w2
    · exact hts w (List.mem_filter.mpr ⟨w1, w2⟩)
    · exact va_Nw.use (hx2 w w2) (hF.2.2.2.1 w (List.mem_filter.mpr ⟨w1, w2⟩))
  · rcases List.mem_cons.mp hw9 with rfl | hw9
    · rfl
    · rcases List.mem_cons.mp hw9 with rfl | hw9
      · rfl
      · unfold vx_ot
        rcases (hw w hw9).2 with w2 | w2
        · rw [w2, Bool.or_true]
        · rw [hx2 w w2, Bool.true_or]
end ZW
