section
-- ===== PART A: goes FIRST, ahead of the names: the tables' words, and 'selects' of the private methods out of them =====
/-- a private method of a class that the tables say can be made, by its rows of tables_1 -/
def lw_okq (q : MethodName × Nat) : Prop := (q.1.cls ≠ "java/lang/invoke/MethodHandle" ∧ q.1.cls ≠ "java/lang/invoke/VarHandle") ∧ Cond.instantiable q.1.cls q.2 ∈ tables_1 ∧ Cond.privateMethod q.1 ∈ tables_1 ∧ Cond.instanceMethod q.1 ∈ tables_1
theorem lw_p0 : lw_okq (⟨"LeaseQueue", "writeAll", "()V"⟩, 12) := ⟨⟨by decide +kernel, by decide +kernel⟩, List.mem_of_getElem? (i := 16) (by decide +kernel), List.mem_of_getElem? (i := 176) (by decide +kernel), List.mem_of_getElem? (i := 177) (by decide +kernel)⟩
theorem lw_p1 : lw_okq (⟨"java/lang/Throwable", "fillInStackTrace", "(I)Ljava/lang/Throwable;"⟩, 6) := ⟨⟨by decide +kernel, by decide +kernel⟩, List.mem_of_getElem? (i := 263) (by decide +kernel), List.mem_of_getElem? (i := 261) (by decide +kernel), List.mem_of_getElem? (i := 262) (by decide +kernel)⟩
theorem lw_p2 : lw_okq (⟨"LeaseQueue", "writeIfSafe", "()V"⟩, 12) := ⟨⟨by decide +kernel, by decide +kernel⟩, List.mem_of_getElem? (i := 16) (by decide +kernel), List.mem_of_getElem? (i := 322) (by decide +kernel), List.mem_of_getElem? (i := 323) (by decide +kernel)⟩
theorem lw_p3 : lw_okq (⟨"LeaseQueue", "isItem", "(I)Z"⟩, 12) := ⟨⟨by decide +kernel, by decide +kernel⟩, List.mem_of_getElem? (i := 16) (by decide +kernel), List.mem_of_getElem? (i := 334) (by decide +kernel), List.mem_of_getElem? (i := 335) (by decide +kernel)⟩
theorem lw_p4 : lw_okq (⟨"LeaseQueue", "isAwaited", "(I)Z"⟩, 12) := ⟨⟨by decide +kernel, by decide +kernel⟩, List.mem_of_getElem? (i := 16) (by decide +kernel), List.mem_of_getElem? (i := 338) (by decide +kernel), List.mem_of_getElem? (i := 339) (by decide +kernel)⟩
theorem lw_p5 : lw_okq (⟨"LeaseQueue", "hasItsLimit", "(I)Z"⟩, 12) := ⟨⟨by decide +kernel, by decide +kernel⟩, List.mem_of_getElem? (i := 16) (by decide +kernel), List.mem_of_getElem? (i := 368) (by decide +kernel), List.mem_of_getElem? (i := 369) (by decide +kernel)⟩
theorem lw_p6 : lw_okq (⟨"LeaseQueue", "firstToGo", "(I)I"⟩, 12) := ⟨⟨by decide +kernel, by decide +kernel⟩, List.mem_of_getElem? (i := 16) (by decide +kernel), List.mem_of_getElem? (i := 380) (by decide +kernel), List.mem_of_getElem? (i := 381) (by decide +kernel)⟩
theorem lw_p7 : lw_okq (⟨"LeaseQueue", "leaseOut", "(III)I"⟩, 12) := ⟨⟨by decide +kernel, by decide +kernel⟩, List.mem_of_getElem? (i := 16) (by decide +kernel), List.mem_of_getElem? (i := 418) (by decide +kernel), List.mem_of_getElem? (i := 419) (by decide +kernel)⟩
theorem lw_p8 : lw_okq (⟨"LeaseQueue", "isTriedOut", "(I)Z"⟩, 12) := ⟨⟨by decide +kernel, by decide +kernel⟩, List.mem_of_getElem? (i := 16) (by decide +kernel), List.mem_of_getElem? (i := 457) (by decide +kernel), List.mem_of_getElem? (i := 458) (by decide +kernel)⟩
theorem lw_p9 : lw_okq (⟨"LeaseQueue", "comeBack", "(I)V"⟩, 12) := ⟨⟨by decide +kernel, by decide +kernel⟩, List.mem_of_getElem? (i := 16) (by decide +kernel), List.mem_of_getElem? (i := 461) (by decide +kernel), List.mem_of_getElem? (i := 462) (by decide +kernel)⟩
theorem lw_p10 : lw_okq (⟨"LeaseQueue", "readyFrom", "(I)I"⟩, 12) := ⟨⟨by decide +kernel, by decide +kernel⟩, List.mem_of_getElem? (i := 16) (by decide +kernel), List.mem_of_getElem? (i := 539) (by decide +kernel), List.mem_of_getElem? (i := 540) (by decide +kernel)⟩
theorem lw_p11 : lw_okq (⟨"LeaseQueueModel", "fails", "(ZI)Z"⟩, 19) := ⟨⟨by decide +kernel, by decide +kernel⟩, List.mem_of_getElem? (i := 551) (by decide +kernel), List.mem_of_getElem? (i := 629) (by decide +kernel), List.mem_of_getElem? (i := 630) (by decide +kernel)⟩
theorem lw_p12 : lw_okq (⟨"LeaseQueueModel", "get", "(II)I"⟩, 19) := ⟨⟨by decide +kernel, by decide +kernel⟩, List.mem_of_getElem? (i := 551) (by decide +kernel), List.mem_of_getElem? (i := 633) (by decide +kernel), List.mem_of_getElem? (i := 634) (by decide +kernel)⟩
theorem lw_p13 : lw_okq (⟨"LeaseQueueModel", "saveIfSafe", "()V"⟩, 19) := ⟨⟨by decide +kernel, by decide +kernel⟩, List.mem_of_getElem? (i := 551) (by decide +kernel), List.mem_of_getElem? (i := 637) (by decide +kernel), List.mem_of_getElem? (i := 638) (by decide +kernel)⟩
theorem lw_p14 : lw_okq (⟨"LeaseQueueModel", "save", "()V"⟩, 19) := ⟨⟨by decide +kernel, by decide +kernel⟩, List.mem_of_getElem? (i := 551) (by decide +kernel), List.mem_of_getElem? (i := 641) (by decide +kernel), List.mem_of_getElem? (i := 642) (by decide +kernel)⟩
theorem lw_p15 : lw_okq (⟨"LeaseQueueModel", "notDone", "()I"⟩, 19) := ⟨⟨by decide +kernel, by decide +kernel⟩, List.mem_of_getElem? (i := 551) (by decide +kernel), List.mem_of_getElem? (i := 645) (by decide +kernel), List.mem_of_getElem? (i := 646) (by decide +kernel)⟩
def lw_privs_1 : List (MethodName × Nat) := [(⟨"LeaseQueue", "writeAll", "()V"⟩, 12), (⟨"java/lang/Throwable", "fillInStackTrace", "(I)Ljava/lang/Throwable;"⟩, 6), (⟨"LeaseQueue", "writeIfSafe", "()V"⟩, 12), (⟨"LeaseQueue", "isItem", "(I)Z"⟩, 12), (⟨"LeaseQueue", "isAwaited", "(I)Z"⟩, 12), (⟨"LeaseQueue", "hasItsLimit", "(I)Z"⟩, 12), (⟨"LeaseQueue", "firstToGo", "(I)I"⟩, 12), (⟨"LeaseQueue", "leaseOut", "(III)I"⟩, 12), (⟨"LeaseQueue", "isTriedOut", "(I)Z"⟩, 12), (⟨"LeaseQueue", "comeBack", "(I)V"⟩, 12), (⟨"LeaseQueue", "readyFrom", "(I)I"⟩, 12), (⟨"LeaseQueueModel", "fails", "(ZI)Z"⟩, 19), (⟨"LeaseQueueModel", "get", "(II)I"⟩, 19), (⟨"LeaseQueueModel", "saveIfSafe", "()V"⟩, 19), (⟨"LeaseQueueModel", "save", "()V"⟩, 19), (⟨"LeaseQueueModel", "notDone", "()I"⟩, 19)]
theorem lw_r1 : ∀ q ∈ lw_privs_1, lw_okq q := List.forall_mem_cons.mpr ⟨lw_p0, List.forall_mem_cons.mpr ⟨lw_p1, List.forall_mem_cons.mpr ⟨lw_p2, List.forall_mem_cons.mpr ⟨lw_p3, List.forall_mem_cons.mpr ⟨lw_p4, List.forall_mem_cons.mpr ⟨lw_p5, List.forall_mem_cons.mpr ⟨lw_p6, List.forall_mem_cons.mpr ⟨lw_p7, List.forall_mem_cons.mpr ⟨lw_p8, List.forall_mem_cons.mpr ⟨lw_p9, List.forall_mem_cons.mpr ⟨lw_p10, List.forall_mem_cons.mpr ⟨lw_p11, List.forall_mem_cons.mpr ⟨lw_p12, List.forall_mem_cons.mpr ⟨lw_p13, List.forall_mem_cons.mpr ⟨lw_p14, List.forall_mem_cons.mpr ⟨lw_p15, fun _ h => absurd h List.not_mem_nil⟩⟩⟩⟩⟩⟩⟩⟩⟩⟩⟩⟩⟩⟩⟩⟩
theorem lw_p16 : lw_okq (⟨"LeaseQueueModel", "put", "(III)V"⟩, 19) := ⟨⟨by decide +kernel, by decide +kernel⟩, List.mem_of_getElem? (i := 551) (by decide +kernel), List.mem_of_getElem? (i := 649) (by decide +kernel), List.mem_of_getElem? (i := 650) (by decide +kernel)⟩
theorem lw_p17 : lw_okq (⟨"LeaseQueueModel", "isItem", "(I)Z"⟩, 19) := ⟨⟨by decide +kernel, by decide +kernel⟩, List.mem_of_getElem? (i := 551) (by decide +kernel), List.mem_of_getElem? (i := 657) (by decide +kernel), List.mem_of_getElem? (i := 658) (by decide +kernel)⟩
theorem lw_p18 : lw_okq (⟨"LeaseQueueModel", "lease", "(III)I"⟩, 19) := ⟨⟨by decide +kernel, by decide +kernel⟩, List.mem_of_getElem? (i := 551) (by decide +kernel), List.mem_of_getElem? (i := 668) (by decide +kernel), List.mem_of_getElem? (i := 669) (by decide +kernel)⟩
theorem lw_p19 : lw_okq (⟨"LeaseQueueModel", "held", "(I)I"⟩, 19) := ⟨⟨by decide +kernel, by decide +kernel⟩, List.mem_of_getElem? (i := 551) (by decide +kernel), List.mem_of_getElem? (i := 672) (by decide +kernel), List.mem_of_getElem? (i := 673) (by decide +kernel)⟩
theorem lw_p20 : lw_okq (⟨"LeaseQueueModel", "first", "(I)I"⟩, 19) := ⟨⟨by decide +kernel, by decide +kernel⟩, List.mem_of_getElem? (i := 551) (by decide +kernel), List.mem_of_getElem? (i := 676) (by decide +kernel), List.mem_of_getElem? (i := 677) (by decide +kernel)⟩
theorem lw_p21 : lw_okq (⟨"LeaseQueueModel", "waitOf", "(I)I"⟩, 19) := ⟨⟨by decide +kernel, by decide +kernel⟩, List.mem_of_getElem? (i := 551) (by decide +kernel), List.mem_of_getElem? (i := 680) (by decide +kernel), List.mem_of_getElem? (i := 681) (by decide +kernel)⟩
theorem lw_p22 : lw_okq (⟨"LeaseQueueModel", "isReady", "(I)Z"⟩, 19) := ⟨⟨by decide +kernel, by decide +kernel⟩, List.mem_of_getElem? (i := 551) (by decide +kernel), List.mem_of_getElem? (i := 684) (by decide +kernel), List.mem_of_getElem? (i := 685) (by decide +kernel)⟩
theorem lw_p23 : lw_okq (⟨"LeaseQueueModel", "missing", "(I)I"⟩, 19) := ⟨⟨by decide +kernel, by decide +kernel⟩, List.mem_of_getElem? (i := 551) (by decide +kernel), List.mem_of_getElem? (i := 688) (by decide +kernel), List.mem_of_getElem? (i := 689) (by decide +kernel)⟩
theorem lw_p24 : lw_okq (⟨"LeaseQueueModel", "isBefore", "(II)Z"⟩, 19) := ⟨⟨by decide +kernel, by decide +kernel⟩, List.mem_of_getElem? (i := 551) (by decide +kernel), List.mem_of_getElem? (i := 692) (by decide +kernel), List.mem_of_getElem? (i := 693) (by decide +kernel)⟩
theorem lw_p25 : lw_okq (⟨"LeaseQueueModel", "has", "(II)Z"⟩, 19) := ⟨⟨by decide +kernel, by decide +kernel⟩, List.mem_of_getElem? (i := 551) (by decide +kernel), List.mem_of_getElem? (i := 704) (by decide +kernel), List.mem_of_getElem? (i := 705) (by decide +kernel)⟩
theorem lw_p26 : lw_okq (⟨"LeaseQueueModel", "free", "(II)V"⟩, 19) := ⟨⟨by decide +kernel, by decide +kernel⟩, List.mem_of_getElem? (i := 551) (by decide +kernel), List.mem_of_getElem? (i := 708) (by decide +kernel), List.mem_of_getElem? (i := 709) (by decide +kernel)⟩
theorem lw_p27 : lw_okq (⟨"LeaseQueueModel", "isSpent", "(I)Z"⟩, 19) := ⟨⟨by decide +kernel, by decide +kernel⟩, List.mem_of_getElem? (i := 551) (by decide +kernel), List.mem_of_getElem? (i := 716) (by decide +kernel), List.mem_of_getElem? (i := 717) (by decide +kernel)⟩
def lw_privs_2 : List (MethodName × Nat) := [(⟨"LeaseQueueModel", "put", "(III)V"⟩, 19), (⟨"LeaseQueueModel", "isItem", "(I)Z"⟩, 19), (⟨"LeaseQueueModel", "lease", "(III)I"⟩, 19), (⟨"LeaseQueueModel", "held", "(I)I"⟩, 19), (⟨"LeaseQueueModel", "first", "(I)I"⟩, 19), (⟨"LeaseQueueModel", "waitOf", "(I)I"⟩, 19), (⟨"LeaseQueueModel", "isReady", "(I)Z"⟩, 19), (⟨"LeaseQueueModel", "missing", "(I)I"⟩, 19), (⟨"LeaseQueueModel", "isBefore", "(II)Z"⟩, 19), (⟨"LeaseQueueModel", "has", "(II)Z"⟩, 19), (⟨"LeaseQueueModel", "free", "(II)V"⟩, 19), (⟨"LeaseQueueModel", "isSpent", "(I)Z"⟩, 19)]
theorem lw_r2 : ∀ q ∈ lw_privs_2, lw_okq q := List.forall_mem_cons.mpr ⟨lw_p16, List.forall_mem_cons.mpr ⟨lw_p17, List.forall_mem_cons.mpr ⟨lw_p18, List.forall_mem_cons.mpr ⟨lw_p19, List.forall_mem_cons.mpr ⟨lw_p20, List.forall_mem_cons.mpr ⟨lw_p21, List.forall_mem_cons.mpr ⟨lw_p22, List.forall_mem_cons.mpr ⟨lw_p23, List.forall_mem_cons.mpr ⟨lw_p24, List.forall_mem_cons.mpr ⟨lw_p25, List.forall_mem_cons.mpr ⟨lw_p26, List.forall_mem_cons.mpr ⟨lw_p27, fun _ h => absurd h List.not_mem_nil⟩⟩⟩⟩⟩⟩⟩⟩⟩⟩⟩⟩
def lw_privs : List (MethodName × Nat) := lw_privs_1 ++ (lw_privs_2)
def lw_tbl : List Cond := k2_sels lw_privs ++ tables_1
theorem lw_privs_ok : ∀ q ∈ lw_privs, lw_okq q := by
  show ∀ q ∈ lw_privs_1 ++ (lw_privs_2), lw_okq q
  exact List.forall_mem_append.mpr ⟨lw_r1, lw_r2⟩
/-! ===== BEGIN words of one list among another's, by their places ===== -/
theorem goodIn_r {big : List Cond} (ws : List Cond) (ps : List Nat) (hp : ws = ps.filterMap (fun i => big[i]?)) (h : ws.all goodWord = true) : GoodIn big ws := by
  intro w hw
  have h1 := List.all_eq_true.mp h w hw
  rw [hp] at hw
  obtain ⟨i, -, hi⟩ := List.mem_filterMap.mp hw
  have hm : w ∈ big := by first | exact List.mem_of_getElem? hi | exact List.getElem?_mem hi
  exact ⟨hm, good_of_word h1⟩
theorem goodIn_app {big a b : List Cond} (ha : GoodIn big a) (hb : GoodIn big b) : GoodIn big (a ++ b) := fun w h => (List.mem_append.mp h).elim (ha w) (hb w)
theorem goodIn_ca {big a b : List Cond} {c : Cond} (ha : GoodIn big (c :: a)) (hb : GoodIn big b) : GoodIn big (c :: (a ++ b)) := fun w h => (List.mem_cons.mp h).elim (fun e => ha w (List.mem_cons.mpr (Or.inl e))) (fun h => (List.mem_append.mp h).elim (fun h => ha w (List.mem_cons.mpr (Or.inr h))) (hb w))
theorem goodIn_sub {big ws : List Cond} (hm : ∀ w ∈ ws, w ∈ big) (h : ws.all goodWord = true) : GoodIn big ws := fun w hw => ⟨hm w hw, good_of_word (List.all_eq_true.mp h w hw)⟩
/-! ===== END ===== -/

/-! ===== BEGIN exceptions that leave a method, and their catching by the caller (launches without stack traces) ===== -/
section VXA
/-! The laws vx_back, vx_callV, vx_callS, vx_callSW, vx_throw0, vx_throwS follow proofs of the library, with one case more: JvmDerived/Free/Laws.lean (Back.of_free), Shelf42/LK1.lean (callV, callS), Shelf/KitTraced.lean (throwNew0V, throwNewS). -/
/-- where a method has thrown q: the class by its name, the cell, what was written, the world -/
def vx_T (XC : String → State → State → Prop) (st : State) (q : Addr) (t : State) (mc ms : Nat) (free : Addr → Prop) : Prop :=
  ∃ (E : String) (ce : Cell) (L : List Loc), XC E st t ∧ t.heap[q]? = some ce ∧ ce.vm = .none ∧ st.vm.findClass E = some ce.cls ∧ st.WarmedH t.vm ∧ st.sameButNew ({ t with vm := st.vm } : State) L mc ms ∧ ∀ z ∈ L, free z.base
def vx_Q (Qc : Array Value → State → Outcome → State → Prop) (XC : String → State → State → Prop) (mc ms : Nat) (free : Addr → Prop) : Array Value → State → Outcome → State → Prop := fun a st o t =>
  (Qc a st o t ∧ ∃ L, FrameEnd st o t L mc ms ∧ ∀ q ∈ L, free q.base) ∨ ∃ q, o = .threw q ∧ vx_T XC st q t mc ms free
/-- a callee that returns or throws -/
def vx_Met (l : Launch) (y : MethodName) (ws : List Cond) (rm : Room) (Pc : Array Value → State → Prop) (Qc : Array Value → State → Outcome → State → Prop) (XC : String → State → State → Prop) (mc ms : Nat) (free : Addr → Prop) : Prop :=
  MetFree l y (headSpec ws rm) Pc (fun _ _ _ _ _ => True) (vx_Q Qc XC mc ms free)
def vx_Post (XC : String → State → State → Prop) (mc ms : Nat) (free : Addr → Prop) : Pt → Array Value → Addr → Pt → Prop := fun A a q B =>
  ∃ (g : JFrame) (mk : MethodId) (t : State) (L : List Loc) (E : String) (ce : Cell), B.U.heap = t.heap ∧ B.U.vm = t.vm ∧ XC E (A.U.calling g mk a) t ∧ t.heap[q]? = some ce ∧ ce.vm = .none ∧ A.U.vm.findClass E = some ce.cls ∧ B.locs = A.locs ++ L ∧ (∀ z ∈ L, free z.base) ∧ B.cells = A.cells + mc ∧ B.slots = A.slots + ms
def vx_Back (l : Launch) (R : Room) (p : Program) (e : Env) (below : List Frame) (s : State) (sargs : Array Value) (y : MethodName) (len W9 : Nat)
    (Pre : Pt → Array Value → Prop) (Post : Pt → Array Value → Option Value → Pt → Prop) (PostX : Pt → Array Value → Addr → Pt → Prop) : Prop :=
  ∀ (m : MethodId) (meth : Method) (c : Code) (A : Pt) (g : JFrame) (ig : Instr) (mk : MethodId) (a : Array Value),
    Stand p l e R s m sargs below meth c A.U A.locs A.cells A.slots → g.method = m → g.locals.size = c.maxLocals → decode c.code g.pc = .ok (ig, len) →
    2 * g.monitorRoom + (g.stack.map fun v => v.category).sum ≤ W9 → A.U.methodNamed? y = some mk → Pre A a →
    (∃ (v : Option Value) (B : Pt), Stand p l e R s m sargs below meth c B.U B.locs B.cells B.slots ∧ Post A a v B ∧
      Steps p.tables e below (doInvoke e (A.U.setTop g) [] mk a).1 (B.U.setTop { g with pc := g.pc + len, stack := v.toList ++ g.stack })) ∨
    (∃ (q : Addr) (B : Pt), Stand p l e R s m sargs below meth c B.U B.locs B.cells B.slots ∧ PostX A a q B ∧
      Steps p.tables e below (doInvoke e (A.U.setTop g) [] mk a).1 ((B.U.setTop g).pushFrame (.throwing q)))
section Payer
variable {l : Launch} {R : Room} {p : Program} {e : Env} {below : List Frame} {s : State} {sargs : Array Value} {y : MethodName} {len W9 : Nat}
theorem vx_back {ws : List Cond} {rm : Room} {Pc : Array Value → State → Prop} {Qc : Array Value → State → Outcome → State → Prop} {XC : String → State → State → Prop} {mc ms : Nat} {free : Addr → Prop} {bytes : ByteArray} {maxL : Nat} {ret : Option FieldType}
    (hM : vx_Met l y ws rm Pc Qc XC mc ms free) (hblind : FrameBlind Pc) (hrc : rm.cells = mc) (hrs : rm.slots = ms)
    (hframes : rm.frames + 1 ≤ R.frames) (hlocals : W9 + (maxL + 11) + rm.locals ≤ R.locals)
    (hws : ∀ w ∈ ws, ∀ a' U, s.WarmedH U.vm → w.before a' U = true) (hcode : Cond.code y bytes maxL ret ∈ ws) (hinit : ∀ a' U, s.WarmedH U.vm → (Cond.initialized y.cls).before a' U = true) :
    vx_Back l R p e below s sargs y len W9 (PreOf R mc ms Pc) (PostOf Qc mc ms free) (vx_Post XC mc ms free) := by
  intro m meth c A g ig mk a X hg hsize hdg hW hn hp
  have h1 : (headSpec ws rm).pre.before a A.U = true := atoms_intro fun w hw => hws w hw _ _ X.warmed
  have h2 : (Cond.code y bytes maxL ret).before a A.U = true := hws _ hcode _ _ X.warmed
  have h3 : (Cond.initialized y.cls).before a A.U = true := hinit _ _ X.warmed
  have h4 : A.cells + (headSpec ws rm).room.cells ≤ R.cells := by rw [show (headSpec ws rm).room.cells = mc from hrc]; exact hp.1
  have h5 : A.slots + (headSpec ws rm).room.slots ≤ R.slots := by rw [show (headSpec ws rm).room.slots = ms from hrs]; exact hp.2.1
  have hPc : Pc a (A.U.calling g mk a) := hblind _ _ _ _ hp.2.2
  obtain ⟨U, Ls, c0, s0⟩ := A
  dsimp only [Pt.U, Pt.locs, Pt.cells, Pt.slots] at h1 h2 h3 h4 h5 X hn hPc ⊢
  obtain ⟨methY, cY, hmY, hcY, -, hlY, -, -, -, -⟩ := Cond.code_spec hn h2
  obtain ⟨kY, hkY, -⟩ := className_of_methodNamed hn
  have hinitY : kY.init = .initialized := Cond.initialized_spec (findClass_of_methodNamed hn) hkY h3
  have h : At U g.method c below := by rw [hg]; exact X.here
  have hlocals9 : W9 + (maxL + 11) + (headSpec ws rm).room.locals ≤ R.locals := hlocals
  have happ : (headSpec ws rm).appliesLoose y e.platform (U.calling g mk a) = true :=
    Spec.appliesLoose_calling (g := g) h hdg hn hkY hinitY
      (X.room_calling (g := g) (R' := (headSpec ws rm).room) hsize hmY hcY hframes (by rw [hlY]; omega) h4 h5) h1
  obtain ⟨mid, hmid⟩ := h.above
  have hfr : (U.setTop g).frames = (.java g :: mid) ++ below := by rw [State.frames_setTop' g h.top, hmid]; rfl
  obtain ⟨o, s₂, hsteps, -, hend, hq⟩ := Steps.callFree hM p X.admits X.cas X.clock (acts := []) hfr happ hPc trivial
  have hq' : vx_Q Qc XC mc ms free a (U.calling g mk a) o s₂ := hq
  rw [State.frames_setTop' g h.top] at hend
  obtain ⟨g₀, hg0⟩ := Option.isSome_iff_exists.mp h.top
  obtain ⟨r, hr⟩ := State.topJava?_eq_some.mp hg0
  have hr' : (({ U with heap := s₂.heap, slotsUsed := s₂.slotsUsed } : State).setVm s₂.vm).frames = .java g₀ :: r := hr
  rcases hq' with ⟨hqc, L, hfe, hL⟩ | ⟨q, rfl, E, ce, L, hx, hce, hcv, hcl, hW₂, hsm, hL⟩
  · obtain ⟨⟨v, rfl⟩, hW₂, e2, q2, q3, q4, q5, q6⟩ := id hfe
    have e3 : s₂ = ({ (U.calling g mk a).setFrames s₂.frames with heap := s₂.heap, slotsUsed := s₂.slotsUsed } : State).setVm s₂.vm := by
      have : s₂ = ({ s₂ with vm := (U.calling g mk a).vm } : State).setVm s₂.vm := rfl
      rw [e2] at this
      exact this
    obtain ⟨c₂, i₂, len₂, hc₂, hd₂, hf₂⟩ := hend
    have hW' : U.WarmedH s₂.vm := hW₂
    have hcc : c₂ = c := by
      have h1 : s₂.code? g.method = U.code? g.method := by
        rw [State.code?_eq, State.code?_eq, hW'.alike.method?]
      exact Option.some.inj (hc₂.symm.trans (h1.trans h.code))
    subst hcc
    have hlen : len₂ = len := by rw [hdg] at hd₂; cases hd₂; rfl
    subst hlen
    have hs₂ : s₂ = (({ U with heap := s₂.heap, slotsUsed := s₂.slotsUsed } : State).setVm s₂.vm).setTop { g with pc := g.pc + len₂, stack := v.toList ++ g.stack } := by
      refine e3.trans ?_
      rw [hf₂, State.calling_eq h.top, State.setFrames_setFrames, State.setTop_of_frames _ hr', hr]
      rfl
    have hsame : U.sameButNew ({ U with heap := s₂.heap, slotsUsed := s₂.slotsUsed } : State) L mc ms := by
      refine ⟨?_, q2, q3, q4, q5, q6⟩
      obtain ⟨t, ht, -⟩ := State.frames_cons hr
      show ({ U with heap := s₂.heap, slotsUsed := s₂.slotsUsed } : State) = { U.setFrames U.frames with heap := s₂.heap, slotsUsed := s₂.slotsUsed }
      rw [State.setFrames_self ht]
    subst hg
    refine Or.inl ⟨v, ⟨(({ U with heap := s₂.heap, slotsUsed := s₂.slotsUsed } : State).setVm s₂.vm), Ls ++ L, c0 + mc, s0 + ms⟩,
      ⟨X.admits, X.cas, X.clock, X.frames, X.room, X.hears, X.method, X.code, (X.here.setHeapUsed s₂.heap s₂.slotsUsed).setVm hW'.alike, X.tail, State.WarmedH.trans X.warmed hW', X.limits, X.bytes, X.same.trans (hsame.setVm s.vm)⟩,
      ⟨g, mk, s₂, L, rfl, rfl, hqc, rfl, hL, rfl, rfl⟩, ?_⟩
    show Steps p.tables e below _ ((({ U with heap := s₂.heap, slotsUsed := s₂.slotsUsed } : State).setVm s₂.vm).setTop { g with pc := g.pc + len₂, stack := v.toList ++ g.stack })
    rw [← hs₂]
    exact hsteps
  · obtain ⟨e2, q2, q3, q4, q5, q6⟩ := id hsm
    have e3 : s₂ = ({ (U.calling g mk a).setFrames s₂.frames with heap := s₂.heap, slotsUsed := s₂.slotsUsed } : State).setVm s₂.vm := by
      have : s₂ = ({ s₂ with vm := (U.calling g mk a).vm } : State).setVm s₂.vm := rfl
      rw [e2] at this
      exact this
    have hf₂ : s₂.frames = .throwing q :: .java g :: U.frames.tail := hend
    have hW' : U.WarmedH s₂.vm := hW₂
    have hs₂ : s₂ = ((({ U with heap := s₂.heap, slotsUsed := s₂.slotsUsed } : State).setVm s₂.vm).setTop g).pushFrame (.throwing q) := by
      refine e3.trans ?_
      rw [hf₂, State.calling_eq h.top, State.setFrames_setFrames, State.pushFrame, State.frames_setTop _ hr', State.setTop_of_frames _ hr', State.setFrames_setFrames, hr]
      rfl
    have hsame : U.sameButNew ({ U with heap := s₂.heap, slotsUsed := s₂.slotsUsed } : State) L mc ms := by
      refine ⟨?_, q2, q3, q4, q5, q6⟩
      obtain ⟨t, ht, -⟩ := State.frames_cons hr
      show ({ U with heap := s₂.heap, slotsUsed := s₂.slotsUsed } : State) = { U.setFrames U.frames with heap := s₂.heap, slotsUsed := s₂.slotsUsed }
      rw [State.setFrames_self ht]
    subst hg
    refine Or.inr ⟨q, ⟨(({ U with heap := s₂.heap, slotsUsed := s₂.slotsUsed } : State).setVm s₂.vm), Ls ++ L, c0 + mc, s0 + ms⟩,
      ⟨X.admits, X.cas, X.clock, X.frames, X.room, X.hears, X.method, X.code, (X.here.setHeapUsed s₂.heap s₂.slotsUsed).setVm hW'.alike, X.tail, State.WarmedH.trans X.warmed hW', X.limits, X.bytes, X.same.trans (hsame.setVm s.vm)⟩,
      ⟨g, mk, s₂, L, E, ce, rfl, rfl, hx, hce, hcv, hcl, rfl, hL, rfl, rfl⟩, ?_⟩
    show Steps p.tables e below _ (((({ U with heap := s₂.heap, slotsUsed := s₂.slotsUsed } : State).setVm s₂.vm).setTop g).pushFrame (.throwing q))
    rw [← hs₂]
    exact hsteps
end Payer
section Calls
variable {p : Program} {l : Launch} {e : Env} {R : Room} {s : State} {m : MethodId} {args : Array Value} {below : List Frame} {meth : Method} {c : Code} {T : State} {locs : List Loc} {cells slots : Nat}
theorem vx_callV (X : Stand p l e R s m args below meth c T locs cells slots) (hexec : p.tables.exec = Jvm.exec) {own C : String} {index : Nat} {y : MethodName} {bytes : ByteArray} {maxL : Nat} {ret : Option FieldType}
    (hown : s.vm.findClass own = some m.cls) (hlink : (Cond.methodLink own index y).before args s = true) (hinst : (Cond.instanceMethod y).before args s = true) (hsel : (Cond.selects C y y).before args s = true)
    (hcode : (Cond.code y bytes maxL ret).before args s = true) (hy : y.cls ≠ "java/lang/invoke/MethodHandle" ∧ y.cls ≠ "java/lang/invoke/VarHandle")
    {W9 : Nat} {Pre : Pt → Array Value → Prop} {Post : Pt → Array Value → Option Value → Pt → Prop} {PostX : Pt → Array Value → Addr → Pt → Prop} (hK : vx_Back l R p e below s args y 3 W9 Pre Post PostX)
    {b : Addr} {cellB : Cell} (hcell : T.heap[b]? = some cellB) (hobj : cellB.vm.isStatics = false) (hcls : s.vm.findClass C = some cellB.cls)
    {g : JFrame} (hg : g.method = m) (hsize : g.locals.size = c.maxLocals) {argsL rest : List Value} (hlen : ∀ sig, parseMethodDescriptor y.desc = some sig → argsL.length = sig.parameters.length)
    (hstack : g.stack = argsL.reverse ++ .ref b :: rest) (hW : 2 * g.monitorRoom + (rest.map fun v => v.category).sum ≤ W9) (hdg : decode c.code g.pc = .ok (.invokevirtual index, 3))
    (hpre : ∀ vm₁, s.WarmedH vm₁ → Pre ⟨T.setVm vm₁, locs, cells, slots⟩ (Value.ref b :: argsL).toArray) :
    (∃ (v : Option Value) (vm₁ : Vm) (B : Pt), s.WarmedH vm₁ ∧ Stand p l e R s m args below meth c B.U B.locs B.cells B.slots ∧ Post ⟨T.setVm vm₁, locs, cells, slots⟩ (Value.ref b :: argsL).toArray v B ∧
      ∀ target, Steps p.tables e below (B.U.setTop { g with pc := g.pc + 3, stack := v.toList ++ rest }) target → Steps p.tables e below (T.setTop g) target) ∨
    (∃ (q : Addr) (vm₁ : Vm) (B : Pt), s.WarmedH vm₁ ∧ Stand p l e R s m args below meth c B.U B.locs B.cells B.slots ∧ PostX ⟨T.setVm vm₁, locs, cells, slots⟩ (Value.ref b :: argsL).toArray q B ∧
      Steps p.tables e below (T.setTop g) ((B.U.setTop { g with stack := rest }).pushFrame (.throwing q))) := by
  obtain ⟨mk, methM, hnamed, hmethM, hstM, habM⟩ := Cond.instanceMethod_spec hinst
  obtain ⟨methM', cM, hmethM', -, -, -, -, -, -, hsigM⟩ := Cond.code_spec hnamed hcode
  cases hmethM.symm.trans hmethM'
  obtain ⟨c2, r2, m2, q1, q2, q3, q4, kP, hkP, hkPi⟩ := Cond.selects_spec hsel
  cases hcls.symm.trans q1
  cases (State.methodFound?_of_named hnamed hy).symm.trans q2
  cases hnamed.symm.trans q3
  have hselP : selectMethod e.platform s.vm cellB.cls mk = .method mk := by rw [Launch.admits_selectMethod X.admits]; exact q4
  obtain ⟨vm₁, X₁, hstep₁⟩ := X.invokevirtual hexec hown hlink hnamed hmethM hstM hkP hkPi hy (a := b) (cell := cellB) hcell
    (fun z h => by rw [h] at hobj; cases hobj) hselP hmethM habM hkP hkPi (g := g) hg (argsL := argsL) (rest := rest) (hlen _ hsigM) hstack hdg
  rcases hK m meth c ⟨T.setVm vm₁, locs, cells, slots⟩ { g with stack := rest } (.invokevirtual index) mk (Value.ref b :: argsL).toArray X₁ hg hsize hdg hW (X₁.named hnamed) (hpre vm₁ X₁.warmed) with ⟨v, B, X', hpost, hsteps⟩ | ⟨q, B, X', hpost, hsteps⟩
  · exact Or.inl ⟨v, vm₁, B, X₁.warmed, X', hpost, fun target h => hstep₁ _ fun acts => by rw [doInvoke_state]; exact hsteps.trans h⟩
  · exact Or.inr ⟨q, vm₁, B, X₁.warmed, X', hpost, hstep₁ _ fun acts => by rw [doInvoke_state]; exact hsteps⟩
theorem vx_callS (X : Stand p l e R s m args below meth c T locs cells slots) (hexec : p.tables.exec = Jvm.exec) {own : String} {index : Nat} {y : MethodName} {bytes : ByteArray} {maxL : Nat} {ret : Option FieldType}
    (hown : s.vm.findClass own = some m.cls) (hlink : (Cond.methodLink own index y).before args s = true) (hstat : (Cond.static y).before args s = true) (hinit : (Cond.initialized y.cls).before args s = true)
    (hcode : (Cond.code y bytes maxL ret).before args s = true) (hy : y.cls ≠ "java/lang/invoke/MethodHandle" ∧ y.cls ≠ "java/lang/invoke/VarHandle")
    {W9 : Nat} {Pre : Pt → Array Value → Prop} {Post : Pt → Array Value → Option Value → Pt → Prop} {PostX : Pt → Array Value → Addr → Pt → Prop} (hK : vx_Back l R p e below s args y 3 W9 Pre Post PostX)
    {g : JFrame} (hg : g.method = m) (hsize : g.locals.size = c.maxLocals) {argsL rest : List Value} (hlen : ∀ sig, parseMethodDescriptor y.desc = some sig → argsL.length = sig.parameters.length)
    (hstack : g.stack = argsL.reverse ++ rest) (hW : 2 * g.monitorRoom + (rest.map fun v => v.category).sum ≤ W9) (hdg : decode c.code g.pc = .ok (.invokestatic index, 3))
    (hpre : ∀ vm₁, s.WarmedH vm₁ → Pre ⟨T.setVm vm₁, locs, cells, slots⟩ argsL.toArray) :
    (∃ (v : Option Value) (vm₁ : Vm) (B : Pt), s.WarmedH vm₁ ∧ Stand p l e R s m args below meth c B.U B.locs B.cells B.slots ∧ Post ⟨T.setVm vm₁, locs, cells, slots⟩ argsL.toArray v B ∧
      ∀ target, Steps p.tables e below (B.U.setTop { g with pc := g.pc + 3, stack := v.toList ++ rest }) target → Steps p.tables e below (T.setTop g) target) ∨
    (∃ (q : Addr) (vm₁ : Vm) (B : Pt), s.WarmedH vm₁ ∧ Stand p l e R s m args below meth c B.U B.locs B.cells B.slots ∧ PostX ⟨T.setVm vm₁, locs, cells, slots⟩ argsL.toArray q B ∧
      Steps p.tables e below (T.setTop g) ((B.U.setTop { g with stack := rest }).pushFrame (.throwing q))) := by
  obtain ⟨mk, hnamed⟩ := Cond.code_named hcode
  obtain ⟨methM, cM, hmethM, -, -, -, -, -, -, hsigM⟩ := Cond.code_spec hnamed hcode
  have hstatic : methM.isStatic = true := Cond.static_spec hnamed hmethM hstat
  obtain ⟨kP, hkP, -⟩ := className_of_methodNamed hnamed
  have hinitP : kP.init = .initialized := Cond.initialized_spec (findClass_of_methodNamed hnamed) hkP hinit
  obtain ⟨vm₁, X₁, hstep₁⟩ := X.invokestatic hexec hown hlink hnamed hmethM hstatic hkP hinitP hy (g := g) hg (argsL := argsL) (rest := rest) (hlen _ hsigM) hstack hdg
  rcases hK m meth c ⟨T.setVm vm₁, locs, cells, slots⟩ { g with stack := rest } (.invokestatic index) mk argsL.toArray X₁ hg hsize hdg hW (X₁.named hnamed) (hpre vm₁ X₁.warmed) with ⟨v, B, X', hpost, hsteps⟩ | ⟨q, B, X', hpost, hsteps⟩
  · exact Or.inl ⟨v, vm₁, B, X₁.warmed, X', hpost, fun target h => hstep₁ _ fun acts => by rw [doInvoke_state]; exact hsteps.trans h⟩
  · exact Or.inr ⟨q, vm₁, B, X₁.warmed, X', hpost, hstep₁ _ fun acts => by rw [doInvoke_state]; exact hsteps⟩
end Calls
theorem vx_cls {s : State} {T : State} {vm₁ : Vm} {E : String} {k : ClassId} (hW : s.WarmedH vm₁) (h : (T.setVm vm₁).vm.findClass E = some k) : s.vm.findClass E = some k := by
  have h1 : vm₁.findClass E = some k := h
  rw [hW.alike.findClass] at h1
  exact h1
/-- the method's frame g, with q thrown over it -/
def vx_W (p : Program) (l : Launch) (e : Env) (R : Room) (s : State) (m : MethodId) (args : Array Value) (below : List Frame) (meth : Method) (c : Code) (H : Heap) (locs : List Loc) (cells slots : Nat) (Q : State → Prop) (g : JFrame) (q : Addr) : Prop :=
  ∀ T : State, T.heap = H → Stand p l e R s m args below meth c T locs cells slots → ∃ t, Steps p.tables e below ((T.setTop g).pushFrame (.throwing q)) t ∧ Q t
def vx_Run (p : Program) (l : Launch) (e : Env) (R : Room) (s : State) (m : MethodId) (args : Array Value) (below : List Frame) (meth : Method) (c : Code) (H : Heap) (locs : List Loc) (cells slots mc ms : Nat) (g : JFrame) (rest : List Value) (Qa : State → Outcome → State → Prop) (XC : String → State → State → Prop) (free : Addr → Prop) : Prop :=
  ∀ T : State, T.heap = H → Stand p l e R s m args below meth c T locs cells slots →
    (∃ (v : Option Value) (st₀ t T' : State) (L : List Loc), st₀.heap = H ∧ Stand p l e R s m args below meth c T' (locs ++ L) (cells + mc) (slots + ms) ∧ (∀ q ∈ L, free q.base) ∧ T'.heap = t.heap ∧ T'.vm = t.vm ∧ Qa st₀ (.returned v) t ∧
      Goes p e below T g T' { g with pc := g.pc + 3, stack := v.toList ++ rest }) ∨
    (∃ (q : Addr) (st₀ t T' : State) (L : List Loc) (E : String) (ce : Cell), st₀.heap = H ∧ Stand p l e R s m args below meth c T' (locs ++ L) (cells + mc) (slots + ms) ∧ (∀ z ∈ L, free z.base) ∧ T'.heap = t.heap ∧ T'.vm = t.vm ∧ XC E st₀ t ∧ t.heap[q]? = some ce ∧ ce.vm = .none ∧ s.vm.findClass E = some ce.cls ∧
      Steps p.tables e below (T.setTop g) ((T'.setTop { g with stack := rest }).pushFrame (.throwing q)))
def vx_X {S : Type} (px : S → Prop) (B : String → S → State → Prop) (A : Nat → Prop) : String → State → State → Prop := fun E st t => ∃ u : S, px u ∧ B E u t ∧ va_F A st t
section Runs
variable {p : Program} {l : Launch} {e : Env} {R : Room} {s : State} {m : MethodId} {args : Array Value} {below : List Frame} {meth : Method} {c : Code} {H : Heap} {locs : List Loc} {cells slots : Nat}
variable {y : MethodName} {bytes cc : ByteArray} {maxL nL mc ms n index : Nat} {ret : Option FieldType} {ws : List Cond} {rm : Room} {Pc : Array Value → State → Prop} {Qc : Array Value → State → Outcome → State → Prop} {XC : String → State → State → Prop} {free : Addr → Prop} {Ts : List Cond} {own C : String} {b : Addr} {As rest : List Value} {g : JFrame}
theorem vx_callBack (cb : CallB R s args own index y bytes maxL ret ws rm mc ms n) (hM : vx_Met l y ws rm Pc Qc XC mc ms free) (hbl : FrameBlind Pc) : vx_Back l R p e below s args y 3 8 (PreOf R mc ms Pc) (PostOf Qc mc ms free) (vx_Post XC mc ms free) := by
  obtain ⟨hrc, hrs, hfr, hlo, hws, hcw, -, hini, -⟩ := cb
  exact vx_back (bytes := bytes) (maxL := maxL) (ret := ret) hM hbl hrc hrs hfr hlo hws hcw (fun a' U hW => word_at hW (Or.inl (by first | rfl | simp [Cond.onTables, Cond.keeps, Cond.steady])) hini)
theorem vx_runV (S : CallFix p m c cc nL s args Ts own) (hM : vx_Met l y ws rm Pc Qc XC mc ms free) (cw : CallW R s args own C index y bytes maxL ret ws rm mc ms n) (hp : PreV s H C b Pc As)
    (hg : g.method = m) (hn : As.length = n) (hsize : g.locals.size = nL) (hstack : g.stack = As.reverse ++ .ref b :: rest) (hW : 2 * g.monitorRoom + (rest.map fun v => v.category).sum ≤ 8) (hdg : decode cc g.pc = .ok (.invokevirtual index, 3)) (hf : cells + mc ≤ R.cells ∧ slots + ms ≤ R.slots) :
    vx_Run p l e R s m args below meth c H locs cells slots mc ms g rest (Qc (Value.ref b :: As).toArray) XC free := by
  have hK : vx_Back l R p e below s args y 3 8 (PreOf R mc ms Pc) (PostOf Qc mc ms free) (vx_Post XC mc ms free) := vx_callBack cw.1 hM hp.1
  obtain ⟨⟨-, -, -, -, -, -, hcode, -, hy, hlen, hl⟩, hin, hse⟩ := cw
  obtain ⟨hx, hb, hml, ho, -⟩ := S
  obtain ⟨-, ⟨cellB, hcB, hoB, hclB⟩, hPc⟩ := hp
  intro T hT X
  rcases vx_callV X hx (C := C) (bytes := bytes) (maxL := maxL) (ret := ret) ho hl hin hse hcode hy hK (by rw [hT]; exact hcB) hoB hclB hg (hsize.trans hml.symm) (argsL := As) (rest := rest) (fun sig h => hn.trans (hlen sig h)) hstack hW (by rw [hb]; exact hdg)
    (fun vm₁ hW₁ => ⟨hf.1, hf.2, hPc (T.setVm vm₁) hT hW₁⟩) with ⟨v, vm₁, ⟨U', l2, c2, s2⟩, hW₁, X', ⟨g', mk, t, L, e1, e2, hq, h1, hL, h2, h3⟩, st⟩ | ⟨q, vm₁, ⟨U', l2, c2, s2⟩, hW₁, X', ⟨g', mk, t, L, E, ce, e1, e2, hq, hce, hcv, hcl, h1, hL, h2, h3⟩, st⟩
  · dsimp only [Pt.U, Pt.locs, Pt.cells, Pt.slots] at X' e1 e2 h1 h2 h3 st
    subst h1; subst h2; subst h3
    exact Or.inl ⟨v, (T.setVm vm₁).calling g' mk (Value.ref b :: As).toArray, t, U', L, hT, X', hL, e1, e2, hq, st⟩
  · dsimp only [Pt.U, Pt.locs, Pt.cells, Pt.slots] at X' e1 e2 h1 h2 h3 st hcl
    subst h1; subst h2; subst h3
    exact Or.inr ⟨q, (T.setVm vm₁).calling g' mk (Value.ref b :: As).toArray, t, U', L, E, ce, hT, X', hL, e1, e2, hq, hce, hcv, vx_cls hW₁ hcl, st⟩
theorem vx_runS (S : CallFix p m c cc nL s args Ts own) (hM : vx_Met l y ws rm Pc Qc XC mc ms free) (cw : CallB R s args own index y bytes maxL ret ws rm mc ms n ∧ (Cond.static y).before args s = true) (hp : PreS s H Pc As)
    (hg : g.method = m) (hn : As.length = n) (hsize : g.locals.size = nL) (hstack : g.stack = As.reverse ++ rest) (hW : 2 * g.monitorRoom + (rest.map fun v => v.category).sum ≤ 8) (hdg : decode cc g.pc = .ok (.invokestatic index, 3)) (hf : cells + mc ≤ R.cells ∧ slots + ms ≤ R.slots) :
    vx_Run p l e R s m args below meth c H locs cells slots mc ms g rest (Qc As.toArray) XC free := by
  have hK : vx_Back l R p e below s args y 3 8 (PreOf R mc ms Pc) (PostOf Qc mc ms free) (vx_Post XC mc ms free) := vx_callBack cw.1 hM hp.1
  obtain ⟨⟨-, -, -, -, -, -, hcode, hini, hy, hlen, hl⟩, hstt⟩ := cw
  obtain ⟨hx, hb, hml, ho, -⟩ := S
  intro T hT X
  rcases vx_callS X hx (bytes := bytes) (maxL := maxL) (ret := ret) ho hl hstt hini hcode hy hK hg (hsize.trans hml.symm) (argsL := As) (rest := rest) (fun sig h => hn.trans (hlen sig h)) hstack hW (by rw [hb]; exact hdg)
    (fun vm₁ hW₁ => ⟨hf.1, hf.2, hp.2 (T.setVm vm₁) hT hW₁⟩) with ⟨v, vm₁, ⟨U', l2, c2, s2⟩, hW₁, X', ⟨g', mk, t, L, e1, e2, hq, h1, hL, h2, h3⟩, st⟩ | ⟨q, vm₁, ⟨U', l2, c2, s2⟩, hW₁, X', ⟨g', mk, t, L, E, ce, e1, e2, hq, hce, hcv, hcl, h1, hL, h2, h3⟩, st⟩
  · dsimp only [Pt.U, Pt.locs, Pt.cells, Pt.slots] at X' e1 e2 h1 h2 h3 st
    subst h1; subst h2; subst h3
    exact Or.inl ⟨v, (T.setVm vm₁).calling g' mk As.toArray, t, U', L, hT, X', hL, e1, e2, hq, st⟩
  · dsimp only [Pt.U, Pt.locs, Pt.cells, Pt.slots] at X' e1 e2 h1 h2 h3 st hcl
    subst h1; subst h2; subst h3
    exact Or.inr ⟨q, (T.setVm vm₁).calling g' mk As.toArray, t, U', L, E, ce, hT, X', hL, e1, e2, hq, hce, hcv, vx_cls hW₁ hcl, st⟩
end Runs
section Rows
variable {p : Program} {l : Launch} {e : Env} {R : Room} {s : State} {m : MethodId} {args : Array Value} {below : List Frame} {meth : Method} {c : Code} {H : Heap} {locs : List Loc} {cells slots : Nat} {Q : State → Prop}
variable {mc ms : Nat} {free : Addr → Prop} {A0 A1 : Nat → Prop} {H0 : Heap} {a : Array Value} {pc : Nat} {ls : Array Slot} {st0 rest : List Value}
theorem vx_keep {st₀ t T' : State} {L : List Loc} (h0 : st₀.heap = H) (e1 : T'.heap = t.heap) (hS : va_S A0 H0 H locs) (hA : ∀ q, q < H.size → A1 q → A0 q) (hf : ∀ q, free q → A0 q) (hL : ∀ q ∈ L, free q.base) (hF : va_F A1 st₀ t) :
    H.size ≤ T'.heap.size ∧ (∀ q : Nat, q < H.size → ¬ A1 q → T'.heap[q]? = H[q]?) ∧ va_S A0 H0 T'.heap (locs ++ L) := by
  obtain ⟨hz, hk⟩ := hF
  rw [h0] at hz hk
  exact ⟨by rw [e1]; exact hz, fun q h1 h2 => by rw [e1]; exact hk q h1 h2,
    ⟨Nat.le_trans hS.1 (by rw [e1]; exact hz), fun q h1 h2 => by rw [e1, hk q (Nat.lt_of_lt_of_le h1 hS.1) (fun z => h2 (hA q (Nat.lt_of_lt_of_le h1 hS.1) z))]; exact hS.2.1 q h1 h2, fun q hq => by
      rcases List.mem_append.mp hq with h | h
      · exact hS.2.2 q h
      · exact hf _ (hL q h)⟩⟩
theorem vx_calli {S SX : Type} {post : Int32 → S → Prop} {px : SX → Prop} {B : S → State → Prop} {BX : String → SX → State → Prop} {AX : Nat → Prop} (hr : vx_Run p l e R s m args below meth c H locs cells slots mc ms (F0 m pc ls st0) rest (va_Qi post B A1 a) (vx_X px BX AX) free) (hS : va_S A0 H0 H locs) (hA : ∀ q, q < H.size → A1 q → A0 q) (hf : ∀ q, free q → A0 q) (hAX : ∀ q, q < H.size → AX q → A0 q)
    (kx : ∀ (E : String) (ce : Cell) (q9 : Addr) (u : SX) (t : State) (H1 : Heap) (locs1 : List Loc), t.heap = H1 → s.vm.Alike t.vm → px u → BX E u t → H.size ≤ H1.size → (∀ q : Nat, q < H.size → ¬ AX q → H1[q]? = H[q]?) → va_S A0 H0 H1 locs1 → H1[q9]? = some ce → ce.vm = .none → s.vm.findClass E = some ce.cls → vx_W p l e R s m args below meth c H1 locs1 (cells + mc) (slots + ms) Q (F0 m pc ls rest) q9)
    (kk : ∀ (r : Int32) (u : S) (t : State) (H1 : Heap) (locs1 : List Loc), t.heap = H1 → s.vm.Alike t.vm → post r u → B u t → H.size ≤ H1.size → (∀ q : Nat, q < H.size → ¬ A1 q → H1[q]? = H[q]?) → va_S A0 H0 H1 locs1 → W p l e R s m args below meth c H1 locs1 (cells + mc) (slots + ms) Q (F0 m (pc + 3) ls (.int r :: rest))) : W p l e R s m args below meth c H locs cells slots Q (F0 m pc ls st0) := by
  intro T hT X
  rcases hr T hT X with ⟨v, st₀, t, T', L, h0, X', hL, e1, e2, ⟨⟨r, u, hv, hp, hb⟩, hF⟩, st⟩ | ⟨q, st₀, t, T', L, E, ce, h0, X', hL, e1, e2, ⟨u, hp, hb, hF⟩, hce, hcv, hcl, st⟩
  · cases hv
    obtain ⟨k1, k2, k3⟩ := vx_keep h0 e1 hS hA hf hL hF
    obtain ⟨t2, a1, b1⟩ := kk r u t T'.heap (locs ++ L) e1.symm (by rw [← e2]; exact X'.warmed.alike) hp hb k1 k2 k3 T' rfl X'
    exact ⟨t2, st t2 a1, b1⟩
  · obtain ⟨k1, k2, k3⟩ := vx_keep h0 e1 hS hAX hf hL hF
    obtain ⟨t2, a1, b1⟩ := kx E ce q u t T'.heap (locs ++ L) e1.symm (by rw [← e2]; exact X'.warmed.alike) hp hb k1 k2 k3 (by rw [e1]; exact hce) hcv hcl T' rfl X'
    exact ⟨t2, st.trans a1, b1⟩
theorem vx_calll {S SX : Type} {post : Int64 → S → Prop} {px : SX → Prop} {B : S → State → Prop} {BX : String → SX → State → Prop} {AX : Nat → Prop} (hr : vx_Run p l e R s m args below meth c H locs cells slots mc ms (F0 m pc ls st0) rest (va_Ql post B A1 a) (vx_X px BX AX) free) (hS : va_S A0 H0 H locs) (hA : ∀ q, q < H.size → A1 q → A0 q) (hf : ∀ q, free q → A0 q) (hAX : ∀ q, q < H.size → AX q → A0 q)
    (kx : ∀ (E : String) (ce : Cell) (q9 : Addr) (u : SX) (t : State) (H1 : Heap) (locs1 : List Loc), t.heap = H1 → s.vm.Alike t.vm → px u → BX E u t → H.size ≤ H1.size → (∀ q : Nat, q < H.size → ¬ AX q → H1[q]? = H[q]?) → va_S A0 H0 H1 locs1 → H1[q9]? = some ce → ce.vm = .none → s.vm.findClass E = some ce.cls → vx_W p l e R s m args below meth c H1 locs1 (cells + mc) (slots + ms) Q (F0 m pc ls rest) q9)
    (kk : ∀ (r : Int64) (u : S) (t : State) (H1 : Heap) (locs1 : List Loc), t.heap = H1 → s.vm.Alike t.vm → post r u → B u t → H.size ≤ H1.size → (∀ q : Nat, q < H.size → ¬ A1 q → H1[q]? = H[q]?) → va_S A0 H0 H1 locs1 → W p l e R s m args below meth c H1 locs1 (cells + mc) (slots + ms) Q (F0 m (pc + 3) ls (.long r :: rest))) : W p l e R s m args below meth c H locs cells slots Q (F0 m pc ls st0) := by
  intro T hT X
  rcases hr T hT X with ⟨v, st₀, t, T', L, h0, X', hL, e1, e2, ⟨⟨r, u, hv, hp, hb⟩, hF⟩, st⟩ | ⟨q, st₀, t, T', L, E, ce, h0, X', hL, e1, e2, ⟨u, hp, hb, hF⟩, hce, hcv, hcl, st⟩
  · cases hv
    obtain ⟨k1, k2, k3⟩ := vx_keep h0 e1 hS hA hf hL hF
    obtain ⟨t2, a1, b1⟩ := kk r u t T'.heap (locs ++ L) e1.symm (by rw [← e2]; exact X'.warmed.alike) hp hb k1 k2 k3 T' rfl X'
    exact ⟨t2, st t2 a1, b1⟩
  · obtain ⟨k1, k2, k3⟩ := vx_keep h0 e1 hS hAX hf hL hF
    obtain ⟨t2, a1, b1⟩ := kx E ce q u t T'.heap (locs ++ L) e1.symm (by rw [← e2]; exact X'.warmed.alike) hp hb k1 k2 k3 (by rw [e1]; exact hce) hcv hcl T' rfl X'
    exact ⟨t2, st.trans a1, b1⟩
theorem vx_callf {S SX : Type} {post : UInt32 → S → Prop} {px : SX → Prop} {B : S → State → Prop} {BX : String → SX → State → Prop} {AX : Nat → Prop} (hr : vx_Run p l e R s m args below meth c H locs cells slots mc ms (F0 m pc ls st0) rest (va_Qf post B A1 a) (vx_X px BX AX) free) (hS : va_S A0 H0 H locs) (hA : ∀ q, q < H.size → A1 q → A0 q) (hf : ∀ q, free q → A0 q) (hAX : ∀ q, q < H.size → AX q → A0 q)
    (kx : ∀ (E : String) (ce : Cell) (q9 : Addr) (u : SX) (t : State) (H1 : Heap) (locs1 : List Loc), t.heap = H1 → s.vm.Alike t.vm → px u → BX E u t → H.size ≤ H1.size → (∀ q : Nat, q < H.size → ¬ AX q → H1[q]? = H[q]?) → va_S A0 H0 H1 locs1 → H1[q9]? = some ce → ce.vm = .none → s.vm.findClass E = some ce.cls → vx_W p l e R s m args below meth c H1 locs1 (cells + mc) (slots + ms) Q (F0 m pc ls rest) q9)
    (kk : ∀ (r : UInt32) (u : S) (t : State) (H1 : Heap) (locs1 : List Loc), t.heap = H1 → s.vm.Alike t.vm → post r u → B u t → H.size ≤ H1.size → (∀ q : Nat, q < H.size → ¬ A1 q → H1[q]? = H[q]?) → va_S A0 H0 H1 locs1 → W p l e R s m args below meth c H1 locs1 (cells + mc) (slots + ms) Q (F0 m (pc + 3) ls (.float r :: rest))) : W p l e R s m args below meth c H locs cells slots Q (F0 m pc ls st0) := by
  intro T hT X
  rcases hr T hT X with ⟨v, st₀, t, T', L, h0, X', hL, e1, e2, ⟨⟨r, u, hv, hp, hb⟩, hF⟩, st⟩ | ⟨q, st₀, t, T', L, E, ce, h0, X', hL, e1, e2, ⟨u, hp, hb, hF⟩, hce, hcv, hcl, st⟩
  · cases hv
    obtain ⟨k1, k2, k3⟩ := vx_keep h0 e1 hS hA hf hL hF
    obtain ⟨t2, a1, b1⟩ := kk r u t T'.heap (locs ++ L) e1.symm (by rw [← e2]; exact X'.warmed.alike) hp hb k1 k2 k3 T' rfl X'
    exact ⟨t2, st t2 a1, b1⟩
  · obtain ⟨k1, k2, k3⟩ := vx_keep h0 e1 hS hAX hf hL hF
    obtain ⟨t2, a1, b1⟩ := kx E ce q u t T'.heap (locs ++ L) e1.symm (by rw [← e2]; exact X'.warmed.alike) hp hb k1 k2 k3 (by rw [e1]; exact hce) hcv hcl T' rfl X'
    exact ⟨t2, st.trans a1, b1⟩
theorem vx_calld {S SX : Type} {post : UInt64 → S → Prop} {px : SX → Prop} {B : S → State → Prop} {BX : String → SX → State → Prop} {AX : Nat → Prop} (hr : vx_Run p l e R s m args below meth c H locs cells slots mc ms (F0 m pc ls st0) rest (va_Qd post B A1 a) (vx_X px BX AX) free) (hS : va_S A0 H0 H locs) (hA : ∀ q, q < H.size → A1 q → A0 q) (hf : ∀ q, free q → A0 q) (hAX : ∀ q, q < H.size → AX q → A0 q)
    (kx : ∀ (E : String) (ce : Cell) (q9 : Addr) (u : SX) (t : State) (H1 : Heap) (locs1 : List Loc), t.heap = H1 → s.vm.Alike t.vm → px u → BX E u t → H.size ≤ H1.size → (∀ q : Nat, q < H.size → ¬ AX q → H1[q]? = H[q]?) → va_S A0 H0 H1 locs1 → H1[q9]? = some ce → ce.vm = .none → s.vm.findClass E = some ce.cls → vx_W p l e R s m args below meth c H1 locs1 (cells + mc) (slots + ms) Q (F0 m pc ls rest) q9)
    (kk : ∀ (r : UInt64) (u : S) (t : State) (H1 : Heap) (locs1 : List Loc), t.heap = H1 → s.vm.Alike t.vm → post r u → B u t → H.size ≤ H1.size → (∀ q : Nat, q < H.size → ¬ A1 q → H1[q]? = H[q]?) → va_S A0 H0 H1 locs1 → W p l e R s m args below meth c H1 locs1 (cells + mc) (slots + ms) Q (F0 m (pc + 3) ls (.double r :: rest))) : W p l e R s m args below meth c H locs cells slots Q (F0 m pc ls st0) := by
  intro T hT X
  rcases hr T hT X with ⟨v, st₀, t, T', L, h0, X', hL, e1, e2, ⟨⟨r, u, hv, hp, hb⟩, hF⟩, st⟩ | ⟨q, st₀, t, T', L, E, ce, h0, X', hL, e1, e2, ⟨u, hp, hb, hF⟩, hce, hcv, hcl, st⟩
  · cases hv
    obtain ⟨k1, k2, k3⟩ := vx_keep h0 e1 hS hA hf hL hF
    obtain ⟨t2, a1, b1⟩ := kk r u t T'.heap (locs ++ L) e1.symm (by rw [← e2]; exact X'.warmed.alike) hp hb k1 k2 k3 T' rfl X'
    exact ⟨t2, st t2 a1, b1⟩
  · obtain ⟨k1, k2, k3⟩ := vx_keep h0 e1 hS hAX hf hL hF
    obtain ⟨t2, a1, b1⟩ := kx E ce q u t T'.heap (locs ++ L) e1.symm (by rw [← e2]; exact X'.warmed.alike) hp hb k1 k2 k3 (by rw [e1]; exact hce) hcv hcl T' rfl X'
    exact ⟨t2, st.trans a1, b1⟩
theorem vx_callv {S SX : Type} {post : S → Prop} {px : SX → Prop} {B : S → State → Prop} {BX : String → SX → State → Prop} {AX : Nat → Prop} (hr : vx_Run p l e R s m args below meth c H locs cells slots mc ms (F0 m pc ls st0) rest (va_Qv post B A1 a) (vx_X px BX AX) free) (hS : va_S A0 H0 H locs) (hA : ∀ q, q < H.size → A1 q → A0 q) (hf : ∀ q, free q → A0 q) (hAX : ∀ q, q < H.size → AX q → A0 q)
    (kx : ∀ (E : String) (ce : Cell) (q9 : Addr) (u : SX) (t : State) (H1 : Heap) (locs1 : List Loc), t.heap = H1 → s.vm.Alike t.vm → px u → BX E u t → H.size ≤ H1.size → (∀ q : Nat, q < H.size → ¬ AX q → H1[q]? = H[q]?) → va_S A0 H0 H1 locs1 → H1[q9]? = some ce → ce.vm = .none → s.vm.findClass E = some ce.cls → vx_W p l e R s m args below meth c H1 locs1 (cells + mc) (slots + ms) Q (F0 m pc ls rest) q9)
    (kk : ∀ (u : S) (t : State) (H1 : Heap) (locs1 : List Loc), t.heap = H1 → s.vm.Alike t.vm → post u → B u t → H.size ≤ H1.size → (∀ q : Nat, q < H.size → ¬ A1 q → H1[q]? = H[q]?) → va_S A0 H0 H1 locs1 → W p l e R s m args below meth c H1 locs1 (cells + mc) (slots + ms) Q (F0 m (pc + 3) ls (rest))) : W p l e R s m args below meth c H locs cells slots Q (F0 m pc ls st0) := by
  intro T hT X
  rcases hr T hT X with ⟨v, st₀, t, T', L, h0, X', hL, e1, e2, ⟨⟨u, hv, hp, hb⟩, hF⟩, st⟩ | ⟨q, st₀, t, T', L, E, ce, h0, X', hL, e1, e2, ⟨u, hp, hb, hF⟩, hce, hcv, hcl, st⟩
  · cases hv
    obtain ⟨k1, k2, k3⟩ := vx_keep h0 e1 hS hA hf hL hF
    obtain ⟨t2, a1, b1⟩ := kk u t T'.heap (locs ++ L) e1.symm (by rw [← e2]; exact X'.warmed.alike) hp hb k1 k2 k3 T' rfl X'
    exact ⟨t2, st t2 a1, b1⟩
  · obtain ⟨k1, k2, k3⟩ := vx_keep h0 e1 hS hAX hf hL hF
    obtain ⟨t2, a1, b1⟩ := kx E ce q u t T'.heap (locs ++ L) e1.symm (by rw [← e2]; exact X'.warmed.alike) hp hb k1 k2 k3 (by rw [e1]; exact hce) hcv hcl T' rfl X'
    exact ⟨t2, st.trans a1, b1⟩
end Rows
section Ends
variable {p : Program} {l : Launch} {e : Env} {R : Room} {s : State} {m : MethodId} {args : Array Value} {below : List Frame} {meth : Method} {c : Code} {H : Heap} {locs : List Loc} {cells slots : Nat} {Q : State → Prop}
variable {mc ms : Nat} {free : Addr → Prop} {A0 A1 : Nat → Prop} {H0 : Heap} {a : Array Value} {ls : Array Slot} {st0 rest : List Value}
variable {Qc : Array Value → State → Outcome → State → Prop} {XC : String → State → State → Prop}
/-- what a body that may throw owes at its end -/
def vx_MQ (below : List Frame) (Qc : Array Value → State → Outcome → State → Prop) (XC : String → State → State → Prop) (a : Array Value) (s : State) (mc ms : Nat) (free : Addr → Prop) : State → Prop := fun t =>
  ∃ o, t.status = .running ∧ Ended t below o ∧ vx_Q Qc XC mc ms free a s o t
theorem vx_ret {g : JFrame} {mc ms : Nat} (k : W p l e R s m args below meth c H locs cells slots (MQ below Qc args s mc ms free) g) : W p l e R s m args below meth c H locs cells slots (vx_MQ below Qc XC args s mc ms free) g := by
  intro T hT X
  obtain ⟨t, a1, o, b1, b2, b3, b4⟩ := k T hT X
  exact ⟨t, a1, o, b1, b2, Or.inl ⟨b3, b4⟩⟩
/-- not caught here: it goes on to the caller -/
theorem vx_widen {g : JFrame} {q : Addr} {k n : Nat} (h1 : cells ≤ k) (h2 : slots ≤ n) (kk : vx_W p l e R s m args below meth c H locs k n Q g q) : vx_W p l e R s m args below meth c H locs cells slots Q g q := fun T hT X => kk T hT (stand_widen X h1 h2)
theorem vx_out {pc : Nat} {E : String} {ce : Cell} {q : Addr} {mc ms : Nat} (hout : ∀ x ∈ c.exceptionTable.toList, covers x pc = false) (hlocks : meth.locks = false) (hcell : H[q]? = some ce) (hv : ce.vm = .none) (hcl : s.vm.findClass E = some ce.cls)
    (hx : ∀ t : State, t.heap = H → s.vm.Alike t.vm → XC E s t) (hf : ∀ z ∈ locs, free z.base) (hc : cells ≤ mc) (hs : slots ≤ ms) :
    vx_W p l e R s m args below meth c H locs cells slots (vx_MQ below Qc XC args s mc ms free) (F0 m pc ls rest) q := by
  intro T hT X
  obtain ⟨st1, hrun, hend, hW, hsm⟩ := X.leaveThrown q (g := F0 m pc ls rest) rfl rfl rfl hout hlocks
  have hcell9 : (T.setFrames (.throwing q :: below)).heap[q]? = some ce := by
    show T.heap[q]? = some ce
    rw [hT]; exact hcell
  exact ⟨_, st1, .threw q, hrun, hend, Or.inr ⟨q, rfl, E, ce, locs, hx _ hT hW.alike, hcell9, hv, hcl, hW, hsm.mono hc hs, hf⟩⟩
theorem vx_frame {U : State} {k n : Nat} (h : s.sameButNew ({ U with vm := s.vm } : State) locs k n) : s.heap.size ≤ U.heap.size ∧ ∀ q : Nat, q < s.heap.size → (∀ z ∈ locs, z.base ≠ q) → U.heap[q]? = s.heap[q]? := by
  obtain ⟨-, h2, -, -, -, h6⟩ := h
  refine ⟨h2, fun q hq hz => ?_⟩
  obtain ⟨c9, e1, e2, e3, e4⟩ := h6 q _ (Array.getElem?_eq_getElem hq)
  have hs : c9.slots = (s.heap[q]).slots := Array.ext_getElem? fun i => e4 i fun hm => hz _ hm rfl
  have h9 : c9 = s.heap[q] := by
    rw [hs] at e2
    exact e2
  have e5 : U.heap[q]? = some c9 := e1
  rw [e5, h9, Array.getElem?_eq_getElem hq]
/-- the words of a throw but the four that speak of the heap -/
def vx_no (w : Cond) : Bool := decide (w ≠ .isRef (.static Bundle.tN "UNASSIGNED_STACK" Bundle.steD)) && decide (w ≠ .isRef (.static Bundle.tN "SUPPRESSED_SENTINEL" Bundle.listD)) && decide (w ≠ .laysStatic Bundle.tN "UNASSIGNED_STACK" Bundle.steD) && decide (w ≠ .laysStatic Bundle.tN "SUPPRESSED_SENTINEL" Bundle.listD)
def vx_at0 (own : String) (ic : Nat) (X : String) (names : List String) : List Cond := (Bundle.ownAtoms0 own ic X names).filter vx_no
def vx_atS (own : String) (ic : Nat) (X : String) (names : List String) : List Cond := (Bundle.ownAtoms own ic X names).filter vx_no
/-- a word that the tables alone decide, or a good one -/
def vx_ot (w : Cond) : Bool := w.onTables || goodWord w
theorem vx_ot_at {args a' : Array Value} {s U : State} {w : Cond} (hW : s.WarmedH U.vm) (hvm : s.vm = U.vm) (hg : vx_ot w = true) (h : w.before args s = true) : w.before a' U = true := by
  simp only [vx_ot, Bool.or_eq_true] at hg
  rcases hg with hg | hg
  · exact va_tabs hg hvm h
  · exact word_at hW (good_of_word hg) h
/-- a list's words: the good ones out of the method's own list, the others by premises of their own -/
theorem vx_hat {args : Array Value} {s : State} {L B : List Cond} (h1 : ∀ w ∈ L.filter goodWord, w.before args s = true) (h2 : ∀ w ∈ L.filter (fun w => !goodWord w), w ∈ B) (h3 : ∀ w ∈ B, w.before args s = true) : ∀ w ∈ L, w.before args s = true := by
  intro w hw
  by_cases g : goodWord w = true
  · exact h1 w (List.mem_filter.mpr ⟨hw, g⟩)
  · refine h3 w (h2 w (List.mem_filter.mpr ⟨hw, ?_⟩))
    show (!goodWord w) = true
    cases hgw : goodWord w
    · rfl
    · exact absurd hgw g
theorem vx_c {args : Array Value} {s : State} {w : Cond} {B : List Cond} (h : w.before args s = true) (t : ∀ w ∈ B, w.before args s = true) : ∀ w' ∈ w :: B, w'.before args s = true := fun w' h' => (List.mem_cons.mp h').elim (fun e => by rw [e]; exact h) (t w')
theorem vx_n {args : Array Value} {s : State} : ∀ w ∈ ([] : List Cond), w.before args s = true := fun _ h => nomatch h
theorem vx_own {args : Array Value} {s : State} {L : List Cond} (h1 : ∀ w ∈ L.filter vx_no, w.before args s = true)
    (hU : (Cond.isRef (.static Bundle.tN "UNASSIGNED_STACK" Bundle.steD)).before args s = true) (hN : (Cond.isRef (.static Bundle.tN "SUPPRESSED_SENTINEL" Bundle.listD)).before args s = true)
    (lU : (Cond.laysStatic Bundle.tN "UNASSIGNED_STACK" Bundle.steD).before args s = true) (lN : (Cond.laysStatic Bundle.tN "SUPPRESSED_SENTINEL" Bundle.listD).before args s = true) : ∀ w ∈ L, w.before args s = true := by
  intro w hw
  by_cases e1 : w = .isRef (.static Bundle.tN "UNASSIGNED_STACK" Bundle.steD)
  · rw [e1]; exact hU
  · by_cases e2 : w = .isRef (.static Bundle.tN "SUPPRESSED_SENTINEL" Bundle.listD)
    · rw [e2]; exact hN
    · by_cases e3 : w = .laysStatic Bundle.tN "UNASSIGNED_STACK" Bundle.steD
      · rw [e3]; exact lU
      · by_cases e4 : w = .laysStatic Bundle.tN "SUPPRESSED_SENTINEL" Bundle.listD
        · rw [e4]; exact lN
        · exact h1 w (List.mem_filter.mpr ⟨hw, by unfold vx_no; rw [decide_eq_true e1, decide_eq_true e2, decide_eq_true e3, decide_eq_true e4]; rfl⟩)
/-- where a static field lies, its class's statics cell in H -/
def vx_L (C n d : String) (A : Nat → Prop) (U : State) (H : Heap) : Prop := ∃ (c : ClassId) (k : Class) (i : Nat) (f : Field) (a : Nat) (cell : Cell), U.vm.findClass C = some c ∧ U.fieldFound? C n d = some (c, k, i, f) ∧ f.isStatic = true ∧ k.statics = some a ∧ H[a]? = some cell ∧ cell.vm.isStatics = true ∧ cell.cls = c ∧ f.slot < cell.slots.size ∧ k.staticTypes[f.slot]? = some f.type ∧ ¬ A a
theorem vx_L.moved {C n d : String} {A : Nat → Prop} {u U : State} {H : Heap} (hvm : u.vm.Alike U.vm) (h : vx_L C n d A u H) : vx_L C n d A U H := by
  obtain ⟨c, k, i, f, a, cell, h1, h2, h3, h4, h5, h6, h7, h8, h9, h10⟩ := h
  obtain ⟨k', hi', he⟩ := State.fieldFound?_setVm hvm h2
  exact ⟨c, k', i, f, a, cell, by rw [hvm.findClass]; exact h1, hi', h3, by rw [he]; exact h4, h5, h6, h7, h8, by rw [he]; exact h9, h10⟩
theorem vx_L.kept {C n d : String} {A : Nat → Prop} {U : State} {H H1 : Heap} (h : vx_L C n d A U H) (hq : ∀ a : Nat, a < H.size → ¬ A a → H1[a]? = H[a]?) : vx_L C n d A U H1 := by
  obtain ⟨c, k, i, f, a, cell, h1, h2, h3, h4, h5, h6, h7, h8, h9, h10⟩ := h
  exact ⟨c, k, i, f, a, cell, h1, h2, h3, h4, by rw [hq a (Array.getElem?_eq_some_iff.mp h5).1 h10]; exact h5, h6, h7, h8, h9, h10⟩
theorem vx_L.narrow {C n d : String} {A B : Nat → Prop} {U : State} {H : Heap} (h : vx_L C n d A U H) (hAB : ∀ q, B q → A q) : vx_L C n d B U H := by
  obtain ⟨c, k, i, f, a, cell, h1, h2, h3, h4, h5, h6, h7, h8, h9, h10⟩ := h
  exact ⟨c, k, i, f, a, cell, h1, h2, h3, h4, h5, h6, h7, h8, h9, fun z => h10 (hAB _ z)⟩
theorem vx_L.word {C n d : String} {A : Nat → Prop} {s : State} {args : Array Value} (h : vx_L C n d A s s.heap) : (Cond.laysStatic C n d).before args s = true := by
  obtain ⟨c, k, i, f, a, cell, h1, h2, h3, h4, h5, h6, h7, h8, h9, -⟩ := h
  show (Cond.laysStatic C n d).holds args s none s [] = true
  exact Cond.laysStatic_of h1 h2 h3 h4 h5 h6 h7 h8 h9
/-- .. and what it holds: null or some reference -/
def vx_Zq (C n d : String) (A : Nat → Prop) (U : State) (H : Heap) : Prop := va_Zq C n d A U H ∧ vx_L C n d A U H
theorem vx_Zq.moved {C n d : String} {A : Nat → Prop} {u U : State} {H : Heap} (hvm : u.vm.Alike U.vm) (h : vx_Zq C n d A u H) : vx_Zq C n d A U H := ⟨va_Zq.moved hvm h.1, vx_L.moved hvm h.2⟩
theorem vx_Zq.kept {C n d : String} {A : Nat → Prop} {U : State} {H H1 : Heap} (h : vx_Zq C n d A U H) (hq : ∀ a : Nat, a < H.size → ¬ A a → H1[a]? = H[a]?) : vx_Zq C n d A U H1 := ⟨va_Zq.kept h.1 hq, vx_L.kept h.2 hq⟩
theorem vx_Zq.narrow {C n d : String} {A B : Nat → Prop} {U : State} {H : Heap} (h : vx_Zq C n d A U H) (hAB : ∀ q, B q → A q) : vx_Zq C n d B U H := ⟨va_Zq.narrow h.1 hAB, vx_L.narrow h.2 hAB⟩
theorem vx_Zqof {args : Array Value} {s : State} {C n d : String} {A : Nat → Prop} (hl : (Cond.laysStatic C n d).before args s = true) (hini : (Cond.initialized C).before args s = true) (h : (Cond.isRef (.static C n d)).before args s = true) (hA : ∀ a : Nat, a < s.heap.size → ¬ A a) : vx_Zq C n d A s s.heap := by
  refine ⟨va_Zqof hl hini h hA, ?_⟩
  obtain ⟨c, k, i, f, a, cell, h1, h2, h3, h4, h5, h6, h7, h8, h9⟩ := Cond.laysStatic_spec hl
  exact ⟨c, k, i, f, a, cell, h1, h2, h3, h4, h5, h6, h7, h8, h9, hA a (Array.getElem?_eq_some_iff.mp h5).1⟩
theorem vx_isRef {C n d : String} {v : Value} {A : Nat → Prop} {s : State} {args : Array Value} (h : va_Z C n d v A s s.heap) (hv : v.isRef = true) : (Cond.isRef (.static C n d)).before args s = true := by
  obtain ⟨cf, kf, fi, f, a, cell, h1, h2, h3, h4, h5, h6, h7, -⟩ := h
  have he : (Term.static C n d).eval args s none [] s = some v := by
    simp [Term.eval, State.fieldNamed?, h1, h2, h4, h5, h6, h7]
  simp only [Cond.before, Cond.holds, Cond.value, he]
  cases v <;> simp_all [Value.isRef]
theorem vx_isRefq {C n d : String} {A : Nat → Prop} {s : State} {args : Array Value} (h : va_Zq C n d A s s.heap) : (Cond.isRef (.static C n d)).before args s = true := by
  rcases h with h | ⟨t, h⟩
  · exact vx_isRef h rfl
  · exact vx_isRef h rfl
/-- the same frame, seen from here: as if the method were called anew in this heap -/
theorem vx_rebase {T : State} (X : Stand p l e R s m args below meth c T locs cells slots) {R' : Room} (hf : R'.frames ≤ R.frames) (hl : R'.locals ≤ R.locals) (hc : cells + R'.cells ≤ R.cells) (hs : slots + R'.slots ≤ R.slots) :
    Stand p l e R' ((T.setVm s.vm).setFrames (.invoking m args :: below)) m args below meth c T [] 0 0 := by
  have htop : (T.setVm s.vm).topJava?.isSome := X.here.top
  have hF : ((T.setVm s.vm).setFrames (.invoking m args :: below)).frames = .invoking m args :: below := State.frames_setFrames _ (State.cur_lt_of_top htop)
  obtain ⟨g₀, hg0⟩ := Option.isSome_iff_exists.mp htop
  obtain ⟨r, hr⟩ := State.topJava?_eq_some.mp hg0
  have hl9 : e.platform.stackLimits (T.setVm s.vm).me = e.platform.stackLimits s.me := X.limits
  have hb9 : (T.setVm s.vm).me.stackBytes = s.me.stackBytes := X.bytes
  refine ⟨X.admits, X.cas, X.clock, hF, ?_, X.hears, X.method, X.code, X.here, X.tail, X.warmed, ?_, ?_, ?_⟩
  · have h := X.room
    have hU : ((T.setVm s.vm).setFrames (.invoking m args :: below)).localsInUse = s.localsInUse := by
      rw [State.localsInUse_invoking hF (meth := meth) (c := c) X.method X.code, State.localsInUse_invoking X.frames X.method X.code]
    simp only [State.hasRoom, Bool.and_eq_true, decide_eq_true_eq] at h ⊢
    obtain ⟨⟨⟨⟨h1, h2, h3, h4, h5, h6⟩, h7⟩, h8⟩, h9⟩ := h
    rw [X.frames, List.length_cons] at h2 h3
    have q1 := X.heapSize
    have q2 := X.used
    simp only [hF, hU, List.length_cons, State.stackLimits_setFrames, State.stackBytes_setFrames, hl9, hb9]
    refine ⟨⟨⟨⟨by omega, by omega, by omega, by omega, by omega, h6⟩, ?_⟩, ?_⟩, X.book⟩
    · show T.heap.size + R'.cells ≤ e.platform.maxCells
      omega
    · show T.slotsUsed + R'.slots ≤ e.platform.maxSlots
      omega
  · rw [State.stackLimits_setFrames]; rfl
  · rw [State.stackBytes_setFrames]; rfl
  · refine ⟨?_, Nat.le_refl _, Nat.le_refl _, ?_, ?_, fun a c9 h9 => ⟨c9, h9, rfl, rfl, fun _ _ => rfl⟩⟩
    · obtain ⟨t, ht, -⟩ := State.frames_cons hr
      show T.setVm s.vm = { ((T.setVm s.vm).setFrames (.invoking m args :: below)).setFrames (T.setVm s.vm).frames with heap := T.heap, slotsUsed := T.slotsUsed }
      rw [State.setFrames_setFrames, State.setFrames_self ht]
      rfl
    · show T.slotsUsed = T.slotsUsed + ((T.heap.toList.drop T.heap.size).map (·.slots.size)).sum
      rw [List.drop_eq_nil_of_le (Nat.le_of_eq Array.length_toList)]
      rfl
    · show ((T.heap.toList.drop T.heap.size).map (·.slots.size)).sum ≤ 0
      rw [List.drop_eq_nil_of_le (Nat.le_of_eq Array.length_toList)]
      exact Nat.le_refl _
/-- 'throw new E()': new; dup; invokespecial; athrow -/
theorem vx_throw0 {cc : ByteArray} {pc : Nat} (hexec : p.tables.exec = Jvm.exec) (hb : c.code = cc) (hl : l.stackTraces = false) {own cls : String} {names : List String} {ik ic mc ms : Nat} {A : Nat → Prop}
    (hown : s.vm.findClass own = some m.cls) (hcls : Bundle.fit cls = true) (hnames : ∀ n ∈ names, Bundle.fit n = true)
    (hk : (Cond.classLink own ik cls).before args s = true) (hini : (Cond.initialized cls).before args s = true) (hat : ∀ w ∈ vx_at0 own ic cls names, w.before args s = true)
    (hgood : ∀ w ∈ Cond.classLink own ik cls :: Cond.initialized cls :: vx_at0 own ic cls names, vx_ot w = true)
    (hU : vx_Zq Bundle.tN "UNASSIGNED_STACK" Bundle.steD A s s.heap) (hN : vx_Zq Bundle.tN "SUPPRESSED_SENTINEL" Bundle.listD A s s.heap) (hS : va_S A s.heap H locs) (hsize : ls.size = c.maxLocals)
    (d0 : decode cc pc = .ok (.new ik, 3)) (d3 : decode cc (pc + 3) = .ok (.dup, 1)) (d4 : decode cc (pc + 4) = .ok (.invokespecial ic, 3)) (d7 : decode cc (pc + 7) = .ok (.athrow, 1))
    (hout : ∀ x ∈ c.exceptionTable.toList, covers x (pc + 7) = false)
    (hRframes : names.length + 3 < R.frames) (hRlocals : (rest.map fun v => v.category).sum + (13 * (names.length + 1) + 42) ≤ R.locals) (hRcells : cells + 1 ≤ R.cells) (hRslots : slots + 6 ≤ R.slots) (hlocks : meth.locks = false)
    (hx : ∀ t : State, s.vm.Alike t.vm → H.size ≤ t.heap.size → (∀ q : Nat, q < H.size → t.heap[q]? = H[q]?) → XC cls s t)
    (hf : ∀ z ∈ locs, free z.base) (hc : cells + 1 ≤ mc) (hs : slots + 6 ≤ ms) :
    W p l e R s m args below meth c H locs cells slots (vx_MQ below Qc XC args s mc ms free) (F0 m pc ls rest) := by
  intro T hT X
  have htr : e.platform.stackTraces = false := (show e.platform.stackTraces = l.stackTraces by rw [X.admits.platform]).trans hl
  have Y := vx_rebase X (R' := { frames := R.frames, locals := R.locals, cells := 1, slots := 6 }) (Nat.le_refl _) (Nat.le_refl _) hRcells hRslots
  obtain ⟨s', hA⟩ : ∃ z, z = (T.setVm s.vm).setFrames (.invoking m args :: below) := ⟨_, rfl⟩
  rw [← hA] at Y
  have hvm : s'.vm = s.vm := by rw [hA]; rfl
  have hhp : s'.heap = H := by rw [hA]; exact hT
  have hW0 : s.WarmedH s'.vm := by rw [hvm]; exact State.WarmedH.refl s
  have hat' : ∀ w ∈ vx_at0 own ic cls names, w.before args s' = true := fun w hw => vx_ot_at hW0 hvm.symm (hgood w (List.mem_cons_of_mem _ (List.mem_cons_of_mem _ hw))) (hat w hw)
  have hk' : (Cond.classLink own ik cls).before args s' = true := vx_ot_at hW0 hvm.symm (hgood _ List.mem_cons_self) hk
  have hini' : (Cond.initialized cls).before args s' = true := vx_ot_at hW0 hvm.symm (hgood _ (List.mem_cons_of_mem _ List.mem_cons_self)) hini
  have hU' : vx_Zq Bundle.tN "UNASSIGNED_STACK" Bundle.steD A s' s'.heap := by rw [hhp]; exact vx_Zq.moved hW0.alike (hU.kept hS.2.1)
  have hN' : vx_Zq Bundle.tN "SUPPRESSED_SENTINEL" Bundle.listD A s' s'.heap := by rw [hhp]; exact vx_Zq.moved hW0.alike (hN.kept hS.2.1)
  have h : ∀ w ∈ Bundle.ownAtoms0 own ic cls names, w.before args s' = true := vx_own hat' (vx_isRefq hU'.1) (vx_isRefq hN'.1) hU'.2.word hN'.2.word
  have hown' : s'.vm.findClass own = some m.cls := by rw [hvm]; exact hown
  have hins : (Cond.instantiable cls 6).before args s' = true := h _ (by simp [Bundle.ownAtoms0])
  obtain ⟨vm₁, cX, kX, hfX, hkX, -, -, X₁, st1⟩ := Y.newCold hexec (own := own) (C := cls) (index := ik) (n := 6) hown' hk' hins hini'
    (g := F0 m pc ls rest) rfl (by rw [hb]; exact d0) (Nat.le_refl _) (Nat.le_refl _)
  generalize hT1 : (T.setVm vm₁).pushCell { cls := cX, slots := kX.instanceTypes.map defaultValue, vm := .none } = T1 at X₁ st1
  have hcat : (Value.ref T.heap.size).category = 1 := rfl
  have hcellA : T1.heap[T.heap.size]? = some (freshCell cX kX) := by rw [← hT1]; exact State.heap_pushCell_size _ _
  have d3' : decode c.code (pc + 3) = .ok (.dup, 1) := by rw [hb]; exact d3
  obtain ⟨U, hsteps, hrun, hend, hW, hsame, ce, hce, hO⟩ := X₁.ctorThrow0 hexec htr (own := own) (cls := cls) (names := names) (ic := ic) hown' hcls hnames h (fun x hx => nomatch hx) hfX hkX hcellA (by rw [hhp, hT]; exact Nat.le_refl _)
    (g := { method := m, pc := pc + 4, locals := ls, stack := .ref T.heap.size :: .ref T.heap.size :: rest, locked := none }) rfl hsize rfl rfl (rest := rest) rfl
    (by rw [hb]; exact d4) (by rw [hb]; exact d7) hout hRframes (by simp only [List.map_cons, List.sum_cons, hcat]; omega) hlocks
  obtain ⟨f1, f2⟩ := vx_frame hsame
  rw [hhp] at f1 f2
  have hWs : s.WarmedH U.vm := State.WarmedH.trans hW0 hW
  have hcl : s.vm.findClass cls = some ce.cls := by
    have h9 := hO.cls
    rw [hvm] at h9
    exact h9
  have hall : s.sameButNew ({ U with vm := s.vm } : State) locs mc ms := by
    subst hA
    obtain ⟨e1, e2⟩ := hsame
    rw [State.setFrames_setFrames] at e1
    have h2 : (T.setVm s.vm).sameButNew ({ U with vm := s.vm } : State) [] (0 + 1) (0 + 6) := ⟨e1, e2⟩
    have h3 := X.same.trans h2
    rw [List.append_nil] at h3
    exact h3.mono hc hs
  refine ⟨U, ?_, .threw T.heap.size, hrun, hend, Or.inr ⟨T.heap.size, rfl, cls, ce, locs, hx U hWs.alike f1 (fun q hq => f2 q hq (fun z hz => nomatch hz)), hce, hO.vm, hcl, hWs, hall, hf⟩⟩
  refine st1 _ ?_
  show Steps p.tables e below (T1.setTop { method := m, pc := pc + 3, locals := ls, stack := .ref T.heap.size :: rest, locked := none }) _
  jvm_step X₁.here [X₁.here.top, hexec, d3', Value.category]
  exact hsteps
/-- 'throw new E("text")': new; dup; ldc; invokespecial; athrow -/
theorem vx_throwS {cc : ByteArray} {pc : Nat} (hexec : p.tables.exec = Jvm.exec) (hb : c.code = cc) (hl : l.stackTraces = false) {own cls text : String} {names : List String} {ik is ic mc ms sa : Nat} {A : Nat → Prop}
    (hown : s.vm.findClass own = some m.cls) (hcls : Bundle.fit cls = true) (hnames : ∀ n ∈ names, Bundle.fit n = true)
    (hk : (Cond.classLink own ik cls).before args s = true) (hini : (Cond.initialized cls).before args s = true) (hstr : vk_R own is text sa s) (hat : ∀ w ∈ vx_atS own ic cls names, w.before args s = true)
    (hgood : ∀ w ∈ Cond.classLink own ik cls :: Cond.initialized cls :: vx_atS own ic cls names, vx_ot w = true)
    (hU : vx_Zq Bundle.tN "UNASSIGNED_STACK" Bundle.steD A s s.heap) (hN : vx_Zq Bundle.tN "SUPPRESSED_SENTINEL" Bundle.listD A s s.heap) (hS : va_S A s.heap H locs) (hsize : ls.size = c.maxLocals)
    (d0 : decode cc pc = .ok (.new ik, 3)) (d3 : decode cc (pc + 3) = .ok (.dup, 1)) (d4 : decode cc (pc + 4) = .ok (.ldc is, 2)) (d6 : decode cc (pc + 6) = .ok (.invokespecial ic, 3)) (d9 : decode cc (pc + 9) = .ok (.athrow, 1))
    (hout : ∀ x ∈ c.exceptionTable.toList, covers x (pc + 9) = false)
    (hRframes : names.length + 3 < R.frames) (hRlocals : (rest.map fun v => v.category).sum + (13 * (names.length + 1) + 43) ≤ R.locals) (hRcells : cells + 1 ≤ R.cells) (hRslots : slots + 6 ≤ R.slots) (hlocks : meth.locks = false)
    (hx : ∀ t : State, s.vm.Alike t.vm → H.size ≤ t.heap.size → (∀ q : Nat, q < H.size → t.heap[q]? = H[q]?) → XC cls s t)
    (hf : ∀ z ∈ locs, free z.base) (hc : cells + 1 ≤ mc) (hs : slots + 6 ≤ ms) :
    W p l e R s m args below meth c H locs cells slots (vx_MQ below Qc XC args s mc ms free) (F0 m pc ls rest) := by
  intro T hT X
  have htr : e.platform.stackTraces = false := (show e.platform.stackTraces = l.stackTraces by rw [X.admits.platform]).trans hl
  have Y := vx_rebase X (R' := { frames := R.frames, locals := R.locals, cells := 1, slots := 6 }) (Nat.le_refl _) (Nat.le_refl _) hRcells hRslots
  obtain ⟨s', hA⟩ : ∃ z, z = (T.setVm s.vm).setFrames (.invoking m args :: below) := ⟨_, rfl⟩
  rw [← hA] at Y
  have hvm : s'.vm = s.vm := by rw [hA]; rfl
  have hhp : s'.heap = H := by rw [hA]; exact hT
  have hW0 : s.WarmedH s'.vm := by rw [hvm]; exact State.WarmedH.refl s
  have hat' : ∀ w ∈ vx_atS own ic cls names, w.before args s' = true := fun w hw => vx_ot_at hW0 hvm.symm (hgood w (List.mem_cons_of_mem _ (List.mem_cons_of_mem _ hw))) (hat w hw)
  have hk' : (Cond.classLink own ik cls).before args s' = true := vx_ot_at hW0 hvm.symm (hgood _ List.mem_cons_self) hk
  have hini' : (Cond.initialized cls).before args s' = true := vx_ot_at hW0 hvm.symm (hgood _ (List.mem_cons_of_mem _ List.mem_cons_self)) hini
  have hU' : vx_Zq Bundle.tN "UNASSIGNED_STACK" Bundle.steD A s' s'.heap := by rw [hhp]; exact vx_Zq.moved hW0.alike (hU.kept hS.2.1)
  have hN' : vx_Zq Bundle.tN "SUPPRESSED_SENTINEL" Bundle.listD A s' s'.heap := by rw [hhp]; exact vx_Zq.moved hW0.alike (hN.kept hS.2.1)
  have h : ∀ w ∈ Bundle.ownAtoms own ic cls names, w.before args s' = true := vx_own hat' (vx_isRefq hU'.1) (vx_isRefq hN'.1) hU'.2.word hN'.2.word
  have hown' : s'.vm.findClass own = some m.cls := by rw [hvm]; exact hown
  have hins : (Cond.instantiable cls 6).before args s' = true := h _ (by simp [Bundle.ownAtoms])
  obtain ⟨vm₁, cX, kX, hfX, hkX, -, -, X₁, st1⟩ := Y.newCold hexec (own := own) (C := cls) (index := ik) (n := 6) hown' hk' hins hini'
    (g := F0 m pc ls rest) rfl (by rw [hb]; exact d0) (Nat.le_refl _) (Nat.le_refl _)
  generalize hT1 : (T.setVm vm₁).pushCell { cls := cX, slots := kX.instanceTypes.map defaultValue, vm := .none } = T1 at X₁ st1
  have hcat : (Value.ref T.heap.size).category = 1 := rfl
  have hcellA : T1.heap[T.heap.size]? = some (freshCell cX kX) := by rw [← hT1]; exact State.heap_pushCell_size _ _
  have d3' : decode c.code (pc + 3) = .ok (.dup, 1) := by rw [hb]; exact d3
  have d4' : decode c.code (pc + 4) = .ok (.ldc is, 2) := by rw [hb]; exact d4
  have hstr' : vk_R own is text sa s' := vk_R.warm hW0 hstr
  obtain ⟨U, hsteps, hrun, hend, hW, hsame, ce, hce, hO⟩ := X₁.ctorThrowS hexec htr (own := own) (cls := cls) (names := names) (ic := ic) hown' hcls hnames h (fun x hx => nomatch hx) hfX hkX hcellA (by rw [hhp, hT]; exact Nat.le_refl _) (msg := .ref sa) rfl
    (g := { method := m, pc := pc + 6, locals := ls, stack := .ref sa :: .ref T.heap.size :: .ref T.heap.size :: rest, locked := none }) rfl hsize rfl rfl (rest := rest) rfl
    (by rw [hb]; exact d6) (by rw [hb]; exact d9) hout hRframes (by simp only [List.map_cons, List.sum_cons, hcat]; omega) hlocks
  obtain ⟨f1, f2⟩ := vx_frame hsame
  rw [hhp] at f1 f2
  have hWs : s.WarmedH U.vm := State.WarmedH.trans hW0 hW
  have hcl : s.vm.findClass cls = some ce.cls := by
    have h9 := hO.cls
    rw [hvm] at h9
    exact h9
  have hall : s.sameButNew ({ U with vm := s.vm } : State) locs mc ms := by
    subst hA
    obtain ⟨e1, e2⟩ := hsame
    rw [State.setFrames_setFrames] at e1
    have h2 : (T.setVm s.vm).sameButNew ({ U with vm := s.vm } : State) [] (0 + 1) (0 + 6) := ⟨e1, e2⟩
    have h3 := X.same.trans h2
    rw [List.append_nil] at h3
    exact h3.mono hc hs
  refine ⟨U, ?_, .threw T.heap.size, hrun, hend, Or.inr ⟨T.heap.size, rfl, cls, ce, locs, hx U hWs.alike f1 (fun q hq => f2 q hq (fun z hz => nomatch hz)), hce, hO.vm, hcl, hWs, hall, hf⟩⟩
  refine st1 _ ?_
  show Steps p.tables e below (T1.setTop { method := m, pc := pc + 3, locals := ls, stack := .ref T.heap.size :: rest, locked := none }) _
  jvm_step X₁.here [X₁.here.top, hexec, d3', Value.category]
  exact X₁.ldcString hexec (own := own) (text := text) (index := is) (a := sa) hown' hstr'.1 hstr'.2
    (g := { method := m, pc := pc + 4, locals := ls, stack := .ref T.heap.size :: .ref T.heap.size :: rest, locked := none }) rfl d4' _ hsteps
/-- 'throw new E("text")', the text by a wide index -/
theorem vx_throwSW {cc : ByteArray} {pc : Nat} (hexec : p.tables.exec = Jvm.exec) (hb : c.code = cc) (hl : l.stackTraces = false) {own cls text : String} {names : List String} {ik is ic mc ms sa : Nat} {A : Nat → Prop}
    (hown : s.vm.findClass own = some m.cls) (hcls : Bundle.fit cls = true) (hnames : ∀ n ∈ names, Bundle.fit n = true)
    (hk : (Cond.classLink own ik cls).before args s = true) (hini : (Cond.initialized cls).before args s = true) (hstr : vk_R own is text sa s) (hat : ∀ w ∈ vx_atS own ic cls names, w.before args s = true)
    (hgood : ∀ w ∈ Cond.classLink own ik cls :: Cond.initialized cls :: vx_atS own ic cls names, vx_ot w = true)
    (hU : vx_Zq Bundle.tN "UNASSIGNED_STACK" Bundle.steD A s s.heap) (hN : vx_Zq Bundle.tN "SUPPRESSED_SENTINEL" Bundle.listD A s s.heap) (hS : va_S A s.heap H locs) (hsize : ls.size = c.maxLocals)
    (d0 : decode cc pc = .ok (.new ik, 3)) (d3 : decode cc (pc + 3) = .ok (.dup, 1)) (d4 : decode cc (pc + 4) = .ok (.ldc_w is, 3)) (d7 : decode cc (pc + 7) = .ok (.invokespecial ic, 3)) (d10 : decode cc (pc + 10) = .ok (.athrow, 1))
    (hout : ∀ x ∈ c.exceptionTable.toList, covers x (pc + 10) = false)
    (hRframes : names.length + 3 < R.frames) (hRlocals : (rest.map fun v => v.category).sum + (13 * (names.length + 1) + 43) ≤ R.locals) (hRcells : cells + 1 ≤ R.cells) (hRslots : slots + 6 ≤ R.slots) (hlocks : meth.locks = false)
    (hx : ∀ t : State, s.vm.Alike t.vm → H.size ≤ t.heap.size → (∀ q : Nat, q < H.size → t.heap[q]? = H[q]?) → XC cls s t)
    (hf : ∀ z ∈ locs, free z.base) (hc : cells + 1 ≤ mc) (hs : slots + 6 ≤ ms) :
    W p l e R s m args below meth c H locs cells slots (vx_MQ below Qc XC args s mc ms free) (F0 m pc ls rest) := by
  intro T hT X
  have htr : e.platform.stackTraces = false := (show e.platform.stackTraces = l.stackTraces by rw [X.admits.platform]).trans hl
  have Y := vx_rebase X (R' := { frames := R.frames, locals := R.locals, cells := 1, slots := 6 }) (Nat.le_refl _) (Nat.le_refl _) hRcells hRslots
  obtain ⟨s', hA⟩ : ∃ z, z = (T.setVm s.vm).setFrames (.invoking m args :: below) := ⟨_, rfl⟩
  rw [← hA] at Y
  have hvm : s'.vm = s.vm := by rw [hA]; rfl
  have hhp : s'.heap = H := by rw [hA]; exact hT
  have hW0 : s.WarmedH s'.vm := by rw [hvm]; exact State.WarmedH.refl s
  have hat' : ∀ w ∈ vx_atS own ic cls names, w.before args s' = true := fun w hw => vx_ot_at hW0 hvm.symm (hgood w (List.mem_cons_of_mem _ (List.mem_cons_of_mem _ hw))) (hat w hw)
  have hk' : (Cond.classLink own ik cls).before args s' = true := vx_ot_at hW0 hvm.symm (hgood _ List.mem_cons_self) hk
  have hini' : (Cond.initialized cls).before args s' = true := vx_ot_at hW0 hvm.symm (hgood _ (List.mem_cons_of_mem _ List.mem_cons_self)) hini
  have hU' : vx_Zq Bundle.tN "UNASSIGNED_STACK" Bundle.steD A s' s'.heap := by rw [hhp]; exact vx_Zq.moved hW0.alike (hU.kept hS.2.1)
  have hN' : vx_Zq Bundle.tN "SUPPRESSED_SENTINEL" Bundle.listD A s' s'.heap := by rw [hhp]; exact vx_Zq.moved hW0.alike (hN.kept hS.2.1)
  have h : ∀ w ∈ Bundle.ownAtoms own ic cls names, w.before args s' = true := vx_own hat' (vx_isRefq hU'.1) (vx_isRefq hN'.1) hU'.2.word hN'.2.word
  have hown' : s'.vm.findClass own = some m.cls := by rw [hvm]; exact hown
  have hins : (Cond.instantiable cls 6).before args s' = true := h _ (by simp [Bundle.ownAtoms])
  obtain ⟨vm₁, cX, kX, hfX, hkX, -, -, X₁, st1⟩ := Y.newCold hexec (own := own) (C := cls) (index := ik) (n := 6) hown' hk' hins hini'
    (g := F0 m pc ls rest) rfl (by rw [hb]; exact d0) (Nat.le_refl _) (Nat.le_refl _)
  generalize hT1 : (T.setVm vm₁).pushCell { cls := cX, slots := kX.instanceTypes.map defaultValue, vm := .none } = T1 at X₁ st1
  have hcat : (Value.ref T.heap.size).category = 1 := rfl
  have hcellA : T1.heap[T.heap.size]? = some (freshCell cX kX) := by rw [← hT1]; exact State.heap_pushCell_size _ _
  have d3' : decode c.code (pc + 3) = .ok (.dup, 1) := by rw [hb]; exact d3
  have d4' : decode c.code (pc + 4) = .ok (.ldc_w is, 3) := by rw [hb]; exact d4
  have hstr' : vk_R own is text sa s' := vk_R.warm hW0 hstr
  obtain ⟨U, hsteps, hrun, hend, hW, hsame, ce, hce, hO⟩ := X₁.ctorThrowS hexec htr (own := own) (cls := cls) (names := names) (ic := ic) hown' hcls hnames h (fun x hx => nomatch hx) hfX hkX hcellA (by rw [hhp, hT]; exact Nat.le_refl _) (msg := .ref sa) rfl
    (g := { method := m, pc := pc + 7, locals := ls, stack := .ref sa :: .ref T.heap.size :: .ref T.heap.size :: rest, locked := none }) rfl hsize rfl rfl (rest := rest) rfl
    (by rw [hb]; exact d7) (by rw [hb]; exact d10) hout hRframes (by simp only [List.map_cons, List.sum_cons, hcat]; omega) hlocks
  obtain ⟨f1, f2⟩ := vx_frame hsame
  rw [hhp] at f1 f2
  have hWs : s.WarmedH U.vm := State.WarmedH.trans hW0 hW
  have hcl : s.vm.findClass cls = some ce.cls := by
    have h9 := hO.cls
    rw [hvm] at h9
    exact h9
  have hall : s.sameButNew ({ U with vm := s.vm } : State) locs mc ms := by
    subst hA
    obtain ⟨e1, e2⟩ := hsame
    rw [State.setFrames_setFrames] at e1
    have h2 : (T.setVm s.vm).sameButNew ({ U with vm := s.vm } : State) [] (0 + 1) (0 + 6) := ⟨e1, e2⟩
    have h3 := X.same.trans h2
    rw [List.append_nil] at h3
    exact h3.mono hc hs
  refine ⟨U, ?_, .threw T.heap.size, hrun, hend, Or.inr ⟨T.heap.size, rfl, cls, ce, locs, hx U hWs.alike f1 (fun q hq => f2 q hq (fun z hz => nomatch hz)), hce, hO.vm, hcl, hWs, hall, hf⟩⟩
  refine st1 _ ?_
  show Steps p.tables e below (T1.setTop { method := m, pc := pc + 3, locals := ls, stack := .ref T.heap.size :: rest, locked := none }) _
  jvm_step X₁.here [X₁.here.top, hexec, d3', Value.category]
  exact X₁.ldcStringW hexec (own := own) (text := text) (index := is) (a := sa) hown' hstr'.1 hstr'.2
    (g := { method := m, pc := pc + 4, locals := ls, stack := .ref T.heap.size :: .ref T.heap.size :: rest, locked := none }) rfl d4' _ hsteps
end Ends
section Bodies
variable {l : Launch}
theorem vx_ofW {y : MethodName} {ws ws' : List Cond} {rm : Room} {Pc : Array Value → State → Prop} {Qc : Array Value → State → Outcome → State → Prop} {XC : String → State → State → Prop} {mc ms : Nat} {free : Addr → Prop} {cc : ByteArray} {maxL : Nat} {ret : Option FieldType}
    (hy : plainName y.cls = true) (hw : ws = Cond.code y cc maxL ret :: ws')
    (body : ∀ p e s m args below meth c s₁, BodyLoose p l y (headSpec ws rm) cc maxL ret e s m args below meth c s₁ → c.maxLocals = maxL → (∀ x ∈ c.exceptionTable.toList, False) → Pc args s →
      W p l e (headSpec ws rm).room s m args below meth c s.heap [] 0 0 (vx_MQ below Qc XC args s mc ms free) (entryFrame m args maxL)) : vx_Met l y ws rm Pc Qc XC mc ms free := by
  refine MetFree.of_bodyS (code := cc) (maxLocals := maxL) (ret := ret) hy ?_ ?_
  · intro args s m h hn
    obtain ⟨meth, c, h1, h2, h3, h4, h5, h6, -, -⟩ := Cond.code_spec hn (atoms_spec (ws := ws) h _ (by rw [hw]; exact List.mem_cons_self))
    exact ⟨meth, c, h1, h2, h3, h4, h5, h6⟩
  · intro p e s m args below meth c s₁ B hml hP _
    have hh0 : s₁.heap = s.heap := by rw [B.state]; rfl
    have ht : ∀ x ∈ c.exceptionTable.toList, False := by
      obtain ⟨meth9, c9, h1, h2, -, -, -, -, h7, -⟩ := Cond.code_spec B.named (atoms_spec (ws := ws) B.pre _ (by rw [hw]; exact List.mem_cons_self))
      cases Option.some.inj (h1.symm.trans B.method)
      cases Option.some.inj (h2.symm.trans (Stand.of_body B).code)
      intro x hx
      rw [Array.isEmpty_iff.mp h7] at hx
      cases hx
    obtain ⟨t, a1, o, b1, b2, b3⟩ := body p e s m args below meth c s₁ B hml ht hP s₁ hh0 (Stand.of_body B)
    exact ⟨t, o, a1, b1, b2, b3⟩
/-- the table of a body with handlers -/
theorem vx_table {p : Program} {x y : MethodName} {S : Spec} {cc bytes : ByteArray} {maxL maxL' : Nat} {ret ret' : Option FieldType} {e : Env} {s s₁ : State} {m : MethodId} {args : Array Value} {below : List Frame} {meth : Method} {c : Code} {hh : List (Nat × Nat × Nat × Nat)}
    (B : BodyLoose p l y S cc maxL ret e s m args below meth c s₁) (h : (Cond.codeWith y bytes maxL' ret' hh).before args s = true) : c.exceptionTable.toList = tableOf hh := by
  obtain ⟨m9, meth9, c9, hn9, h1, h2, -, -, h6, -⟩ := Cond.codeWith_spec h
  cases Option.some.inj (hn9.symm.trans B.named)
  cases Option.some.inj (h1.symm.trans B.method)
  cases Option.some.inj (h2.symm.trans (Stand.of_body B).code)
  rw [← h6, table_eq]
end Bodies
end VXA
/-! ===== END ===== -/
/-! ===== BEGIN a static call of a method with an exception table ===== -/
section VXS
variable {p : Program} {l : Launch} {e : Env} {R : Room} {s : State} {m : MethodId} {args : Array Value} {below : List Frame} {meth : Method} {c : Code} {T : State} {H : Heap} {locs : List Loc} {cells slots : Nat}
abbrev vx_CSW (R : Room) (s : State) (args : Array Value) (own : String) (index : Nat) (y : MethodName) (bytes : ByteArray) (maxL : Nat) (ret : Option FieldType) (hh : List (Nat × Nat × Nat × Nat)) (ws : List Cond) (rm : Room) (mc ms n : Nat) : Prop :=
  (rm.cells = mc ∧ rm.slots = ms ∧ rm.frames + 1 ≤ R.frames ∧ 8 + (maxL + 11) + rm.locals ≤ R.locals ∧ (∀ w ∈ ws, ∀ (a' : Array Value) (U : State), s.WarmedH U.vm → w.before a' U = true) ∧ Cond.codeWith y bytes maxL ret hh ∈ ws) ∧
  (Cond.codeWith y bytes maxL ret hh).before args s = true ∧ (Cond.initialized y.cls).before args s = true ∧ (y.cls ≠ "java/lang/invoke/MethodHandle" ∧ y.cls ≠ "java/lang/invoke/VarHandle") ∧
  (∀ sig, parseMethodDescriptor y.desc = some sig → n = sig.parameters.length) ∧ (Cond.methodLink own index y).before args s = true ∧ (Cond.static y).before args s = true
theorem vx_cwSW {own : String} {index maxL mc ms : Nat} {y : MethodName} {bytes : ByteArray} {ret : Option FieldType} {hh : List (Nat × Nat × Nat × Nat)} {Ts ws ws' : List Cond} {rm : Room} (n : Nat) (ht : ∀ w ∈ Ts, w.before args s = true) (hT : GoodIn Ts (va_wsS own index y ws)) (hw : ws = Cond.codeWith y bytes maxL ret hh :: ws') (hrc : rm.cells = mc) (hrs : rm.slots = ms)
    (hd : y.cls ≠ "java/lang/invoke/MethodHandle" ∧ y.cls ≠ "java/lang/invoke/VarHandle" ∧ (parseMethodDescriptor y.desc).map (fun d => d.parameters.length) = some n) (hR : rm.frames + 1 ≤ R.frames ∧ 8 + (maxL + 11) + rm.locals ≤ R.locals) :
    vx_CSW R s args own index y bytes maxL ret hh ws rm mc ms n := by
  have ok : ∀ w ∈ va_wsS own index y ws, w.before args s = true := fun w h => ht w (hT w h).1
  have hG : GoodIn Ts ws := fun w h => hT w (by unfold va_wsS; exact List.mem_append_right _ h)
  have hc : Cond.codeWith y bytes maxL ret hh ∈ ws := by rw [hw]; exact List.mem_cons_self
  refine ⟨⟨hrc, hrs, hR.1, hR.2, pay_in ht hG, hc⟩, ht _ (hG _ hc).1, ok _ (by simp [va_wsS]), ⟨hd.1, hd.2.1⟩, fun sig h => ?_, ok _ (by simp [va_wsS]), ok _ (by simp [va_wsS])⟩
  have h2 := hd.2.2
  rw [h] at h2
  exact (Option.some.inj h2).symm
theorem vx_callSW (X : Stand p l e R s m args below meth c T locs cells slots) (hexec : p.tables.exec = Jvm.exec) {own : String} {index : Nat} {y : MethodName} {bytes : ByteArray} {maxL : Nat} {ret : Option FieldType} {hh : List (Nat × Nat × Nat × Nat)}
    (hown : s.vm.findClass own = some m.cls) (hlink : (Cond.methodLink own index y).before args s = true) (hstat : (Cond.static y).before args s = true) (hinit : (Cond.initialized y.cls).before args s = true)
    (hcode : (Cond.codeWith y bytes maxL ret hh).before args s = true) (hy : y.cls ≠ "java/lang/invoke/MethodHandle" ∧ y.cls ≠ "java/lang/invoke/VarHandle")
    {W9 : Nat} {Pre : Pt → Array Value → Prop} {Post : Pt → Array Value → Option Value → Pt → Prop} (hK : Back l R p e below s args y 3 W9 Pre Post)
    {g : JFrame} (hg : g.method = m) (hsize : g.locals.size = c.maxLocals) {argsL rest : List Value} (hlen : ∀ sig, parseMethodDescriptor y.desc = some sig → argsL.length = sig.parameters.length)
    (hstack : g.stack = argsL.reverse ++ rest) (hW : 2 * g.monitorRoom + (rest.map fun v => v.category).sum ≤ W9) (hdg : decode c.code g.pc = .ok (.invokestatic index, 3))
    (hpre : ∀ vm₁, s.WarmedH vm₁ → Pre ⟨T.setVm vm₁, locs, cells, slots⟩ argsL.toArray) :
    ∃ (v : Option Value) (vm₁ : Vm) (B : Pt), s.WarmedH vm₁ ∧ Stand p l e R s m args below meth c B.U B.locs B.cells B.slots ∧ Post ⟨T.setVm vm₁, locs, cells, slots⟩ argsL.toArray v B ∧
      ∀ target, Steps p.tables e below (B.U.setTop { g with pc := g.pc + 3, stack := v.toList ++ rest }) target → Steps p.tables e below (T.setTop g) target := by
  obtain ⟨mk, methM, cM, hnamed, hmethM, -, -, -, -, -, -, hsigM⟩ := Cond.codeWith_spec hcode
  have hstatic : methM.isStatic = true := Cond.static_spec hnamed hmethM hstat
  obtain ⟨kP, hkP, -⟩ := className_of_methodNamed hnamed
  have hinitP : kP.init = .initialized := Cond.initialized_spec (findClass_of_methodNamed hnamed) hkP hinit
  obtain ⟨vm₁, X₁, hstep₁⟩ := X.invokestatic hexec hown hlink hnamed hmethM hstatic hkP hinitP hy (g := g) hg (argsL := argsL) (rest := rest) (hlen _ hsigM) hstack hdg
  obtain ⟨v, B, X', hpost, hsteps⟩ := hK m meth c ⟨T.setVm vm₁, locs, cells, slots⟩ { g with stack := rest } (.invokestatic index) mk argsL.toArray X₁ hg hsize hdg hW (X₁.named hnamed) (hpre vm₁ X₁.warmed)
  exact ⟨v, vm₁, B, X₁.warmed, X', hpost, fun target h => hstep₁ _ fun acts => by rw [doInvoke_state]; exact hsteps.trans h⟩
theorem vx_runSW {y : MethodName} {bytes cc : ByteArray} {maxL nL mc ms n index : Nat} {ret : Option FieldType} {hh : List (Nat × Nat × Nat × Nat)} {ws : List Cond} {rm : Room} {Pc : Array Value → State → Prop} {Qc : Array Value → State → Outcome → State → Prop} {free : Addr → Prop} {Ts : List Cond} {own : String} {As rest : List Value} {g : JFrame}
    (S : CallFix p m c cc nL s args Ts own) (hM : Met l y ws rm Pc Qc mc ms free) (cw : vx_CSW R s args own index y bytes maxL ret hh ws rm mc ms n) (hp : PreS s H Pc As)
    (hg : g.method = m) (hn : As.length = n) (hsize : g.locals.size = nL) (hstack : g.stack = As.reverse ++ rest) (hW : 2 * g.monitorRoom + (rest.map fun v => v.category).sum ≤ 8) (hdg : decode cc g.pc = .ok (.invokestatic index, 3)) (hf : cells + mc ≤ R.cells ∧ slots + ms ≤ R.slots) :
    va_Run p l e R s m args below meth c H locs cells slots mc ms g rest (Qc As.toArray) (free) := by
  obtain ⟨⟨hrc, hrs, hfr, hlo, hws, hcw⟩, hcode, hini, hy, hlen, hl, hstt⟩ := cw
  have hK : Back l R p e below s args y 3 8 (PreOf R mc ms Pc) (PostOf Qc mc ms free) := va_backW (hh := hh) (bytes := bytes) (maxL := maxL) (ret := ret) hM hp.1 hrc hrs hfr hlo hws hcw (fun a' U hW => word_at hW (Or.inl (by first | rfl | simp [Cond.onTables, Cond.keeps, Cond.steady])) hini)
  obtain ⟨hx, hb, hml, ho, -⟩ := S
  intro T hT X
  obtain ⟨v, vm₁, ⟨U', l2, c2, s2⟩, hW₁, X', ⟨g', mk, t, L, e1, e2, hq, h1, hL, h2, h3⟩, st⟩ := vx_callSW X hx (hh := hh) (bytes := bytes) (maxL := maxL) (ret := ret) ho hl hstt hini hcode hy hK hg (hsize.trans hml.symm) (argsL := As) (rest := rest) (fun sig h => hn.trans (hlen sig h)) hstack hW (by rw [hb]; exact hdg)
    (fun vm₁ hW₁ => ⟨hf.1, hf.2, hp.2 (T.setVm vm₁) hT hW₁⟩)
  dsimp only [Pt.U, Pt.locs, Pt.cells, Pt.slots] at X' e1 e2 h1 h2 h3 st
  subst h1; subst h2; subst h3
  exact ⟨v, (T.setVm vm₁).calling g' mk As.toArray, t, U', L, hT, X', hL, e1, e2, hq, st⟩
/-- a thing of a world lies in the heap -/
theorem vx_lt {D : va_G} {cl : List vw_C} {ws : va_W} {H1 : Heap} (h : va_P D cl ws H1) {k : Nat} {q : Nat × va_E} (hk : ws[k]? = some q) : q.1 < H1.size := (h k q hk).lt
end VXS
/-! ===== END ===== -/
/-! ===== BEGIN methods with a table of their own: called by a name, returning or throwing ===== -/
section VXH
/-! vx_backW, vx_callVX, vx_callSX, vx_callVW, vx_runVW, vx_runVX, vx_runSX, vx_ofWH follow the same proofs as their sisters above (Free/Laws.lean, Shelf42/LK1.lean); vx_outP calls Shelf42/NT130.lean (outThrough). -/
section
variable {l : Launch} {R : Room} {p : Program} {e : Env} {below : List Frame} {s : State} {sargs : Array Value} {y : MethodName} {len W9 : Nat}
theorem vx_backW {ws : List Cond} {rm : Room} {Pc : Array Value → State → Prop} {Qc : Array Value → State → Outcome → State → Prop} {XC : String → State → State → Prop} {mc ms : Nat} {free : Addr → Prop} {bytes : ByteArray} {maxL : Nat} {ret : Option FieldType} {hh : List (Nat × Nat × Nat × Nat)}
    (hM : vx_Met l y ws rm Pc Qc XC mc ms free) (hblind : FrameBlind Pc) (hrc : rm.cells = mc) (hrs : rm.slots = ms)
    (hframes : rm.frames + 1 ≤ R.frames) (hlocals : W9 + (maxL + 11) + rm.locals ≤ R.locals)
    (hws : ∀ w ∈ ws, ∀ a' U, s.WarmedH U.vm → w.before a' U = true) (hcode : Cond.codeWith y bytes maxL ret hh ∈ ws) (hinit : ∀ a' U, s.WarmedH U.vm → (Cond.initialized y.cls).before a' U = true) :
    vx_Back l R p e below s sargs y len W9 (PreOf R mc ms Pc) (PostOf Qc mc ms free) (vx_Post XC mc ms free) := by
  intro m meth c A g ig mk a X hg hsize hdg hW hn hp
  have h1 : (headSpec ws rm).pre.before a A.U = true := atoms_intro fun w hw => hws w hw _ _ X.warmed
  have h2 : (Cond.codeWith y bytes maxL ret hh).before a A.U = true := hws _ hcode _ _ X.warmed
  have h3 : (Cond.initialized y.cls).before a A.U = true := hinit _ _ X.warmed
  have h4 : A.cells + (headSpec ws rm).room.cells ≤ R.cells := by rw [show (headSpec ws rm).room.cells = mc from hrc]; exact hp.1
  have h5 : A.slots + (headSpec ws rm).room.slots ≤ R.slots := by rw [show (headSpec ws rm).room.slots = ms from hrs]; exact hp.2.1
  have hPc : Pc a (A.U.calling g mk a) := hblind _ _ _ _ hp.2.2
  obtain ⟨U, Ls, c0, s0⟩ := A
  dsimp only [Pt.U, Pt.locs, Pt.cells, Pt.slots] at h1 h2 h3 h4 h5 X hn hPc ⊢
  obtain ⟨m9, methY, cY, hn9, hmY, hcY, -, hlY, -⟩ := Cond.codeWith_spec h2
  cases Option.some.inj (hn9.symm.trans hn)
  obtain ⟨kY, hkY, -⟩ := className_of_methodNamed hn
  have hinitY : kY.init = .initialized := Cond.initialized_spec (findClass_of_methodNamed hn) hkY h3
  have h : At U g.method c below := by rw [hg]; exact X.here
  have hlocals9 : W9 + (maxL + 11) + (headSpec ws rm).room.locals ≤ R.locals := hlocals
  have happ : (headSpec ws rm).appliesLoose y e.platform (U.calling g mk a) = true :=
    Spec.appliesLoose_calling (g := g) h hdg hn hkY hinitY
      (X.room_calling (g := g) (R' := (headSpec ws rm).room) hsize hmY hcY hframes (by rw [hlY]; omega) h4 h5) h1
  obtain ⟨mid, hmid⟩ := h.above
  have hfr : (U.setTop g).frames = (.java g :: mid) ++ below := by rw [State.frames_setTop' g h.top, hmid]; rfl
  obtain ⟨o, s₂, hsteps, -, hend, hq⟩ := Steps.callFree hM p X.admits X.cas X.clock (acts := []) hfr happ hPc trivial
  have hq' : vx_Q Qc XC mc ms free a (U.calling g mk a) o s₂ := hq
  rw [State.frames_setTop' g h.top] at hend
  obtain ⟨g₀, hg0⟩ := Option.isSome_iff_exists.mp h.top
  obtain ⟨r, hr⟩ := State.topJava?_eq_some.mp hg0
  have hr' : (({ U with heap := s₂.heap, slotsUsed := s₂.slotsUsed } : State).setVm s₂.vm).frames = .java g₀ :: r := hr
  rcases hq' with ⟨hqc, L, hfe, hL⟩ | ⟨q, rfl, E, ce, L, hx, hce, hcv, hcl, hW₂, hsm, hL⟩
  · obtain ⟨⟨v, rfl⟩, hW₂, e2, q2, q3, q4, q5, q6⟩ := id hfe
    have e3 : s₂ = ({ (U.calling g mk a).setFrames s₂.frames with heap := s₂.heap, slotsUsed := s₂.slotsUsed } : State).setVm s₂.vm := by
      have : s₂ = ({ s₂ with vm := (U.calling g mk a).vm } : State).setVm s₂.vm := rfl
      rw [e2] at this
      exact this
    obtain ⟨c₂, i₂, len₂, hc₂, hd₂, hf₂⟩ := hend
    have hW' : U.WarmedH s₂.vm := hW₂
    have hcc : c₂ = c := by
      have h1 : s₂.code? g.method = U.code? g.method := by
        rw [State.code?_eq, State.code?_eq, hW'.alike.method?]
      exact Option.some.inj (hc₂.symm.trans (h1.trans h.code))
    subst hcc
    have hlen : len₂ = len := by rw [hdg] at hd₂; cases hd₂; rfl
    subst hlen
    have hs₂ : s₂ = (({ U with heap := s₂.heap, slotsUsed := s₂.slotsUsed } : State).setVm s₂.vm).setTop { g with pc := g.pc + len₂, stack := v.toList ++ g.stack } := by
      refine e3.trans ?_
      rw [hf₂, State.calling_eq h.top, State.setFrames_setFrames, State.setTop_of_frames _ hr', hr]
      rfl
    have hsame : U.sameButNew ({ U with heap := s₂.heap, slotsUsed := s₂.slotsUsed } : State) L mc ms := by
      refine ⟨?_, q2, q3, q4, q5, q6⟩
      obtain ⟨t, ht, -⟩ := State.frames_cons hr
      show ({ U with heap := s₂.heap, slotsUsed := s₂.slotsUsed } : State) = { U.setFrames U.frames with heap := s₂.heap, slotsUsed := s₂.slotsUsed }
      rw [State.setFrames_self ht]
    subst hg
    refine Or.inl ⟨v, ⟨(({ U with heap := s₂.heap, slotsUsed := s₂.slotsUsed } : State).setVm s₂.vm), Ls ++ L, c0 + mc, s0 + ms⟩,
      ⟨X.admits, X.cas, X.clock, X.frames, X.room, X.hears, X.method, X.code, (X.here.setHeapUsed s₂.heap s₂.slotsUsed).setVm hW'.alike, X.tail, State.WarmedH.trans X.warmed hW', X.limits, X.bytes, X.same.trans (hsame.setVm s.vm)⟩,
      ⟨g, mk, s₂, L, rfl, rfl, hqc, rfl, hL, rfl, rfl⟩, ?_⟩
    show Steps p.tables e below _ ((({ U with heap := s₂.heap, slotsUsed := s₂.slotsUsed } : State).setVm s₂.vm).setTop { g with pc := g.pc + len₂, stack := v.toList ++ g.stack })
    rw [← hs₂]
    exact hsteps
  · obtain ⟨e2, q2, q3, q4, q5, q6⟩ := id hsm
    have e3 : s₂ = ({ (U.calling g mk a).setFrames s₂.frames with heap := s₂.heap, slotsUsed := s₂.slotsUsed } : State).setVm s₂.vm := by
      have : s₂ = ({ s₂ with vm := (U.calling g mk a).vm } : State).setVm s₂.vm := rfl
      rw [e2] at this
      exact this
    have hf₂ : s₂.frames = .throwing q :: .java g :: U.frames.tail := hend
    have hW' : U.WarmedH s₂.vm := hW₂
    have hs₂ : s₂ = ((({ U with heap := s₂.heap, slotsUsed := s₂.slotsUsed } : State).setVm s₂.vm).setTop g).pushFrame (.throwing q) := by
      refine e3.trans ?_
      rw [hf₂, State.calling_eq h.top, State.setFrames_setFrames, State.pushFrame, State.frames_setTop _ hr', State.setTop_of_frames _ hr', State.setFrames_setFrames, hr]
      rfl
    have hsame : U.sameButNew ({ U with heap := s₂.heap, slotsUsed := s₂.slotsUsed } : State) L mc ms := by
      refine ⟨?_, q2, q3, q4, q5, q6⟩
      obtain ⟨t, ht, -⟩ := State.frames_cons hr
      show ({ U with heap := s₂.heap, slotsUsed := s₂.slotsUsed } : State) = { U.setFrames U.frames with heap := s₂.heap, slotsUsed := s₂.slotsUsed }
      rw [State.setFrames_self ht]
    subst hg
    refine Or.inr ⟨q, ⟨(({ U with heap := s₂.heap, slotsUsed := s₂.slotsUsed } : State).setVm s₂.vm), Ls ++ L, c0 + mc, s0 + ms⟩,
      ⟨X.admits, X.cas, X.clock, X.frames, X.room, X.hears, X.method, X.code, (X.here.setHeapUsed s₂.heap s₂.slotsUsed).setVm hW'.alike, X.tail, State.WarmedH.trans X.warmed hW', X.limits, X.bytes, X.same.trans (hsame.setVm s.vm)⟩,
      ⟨g, mk, s₂, L, E, ce, rfl, rfl, hx, hce, hcv, hcl, rfl, hL, rfl, rfl⟩, ?_⟩
    show Steps p.tables e below _ (((({ U with heap := s₂.heap, slotsUsed := s₂.slotsUsed } : State).setVm s₂.vm).setTop g).pushFrame (.throwing q))
    rw [← hs₂]
    exact hsteps
end
variable {p : Program} {l : Launch} {e : Env} {R : Room} {s : State} {m : MethodId} {args : Array Value} {below : List Frame} {meth : Method} {c : Code} {T : State} {H : Heap} {locs : List Loc} {cells slots : Nat}
theorem vx_callVX (X : Stand p l e R s m args below meth c T locs cells slots) (hexec : p.tables.exec = Jvm.exec) {own C : String} {index : Nat} {y : MethodName} {bytes : ByteArray} {maxL : Nat} {ret : Option FieldType} {hh : List (Nat × Nat × Nat × Nat)}
    (hown : s.vm.findClass own = some m.cls) (hlink : (Cond.methodLink own index y).before args s = true) (hinst : (Cond.instanceMethod y).before args s = true) (hsel : (Cond.selects C y y).before args s = true)
    (hcode : (Cond.codeWith y bytes maxL ret hh).before args s = true) (hy : y.cls ≠ "java/lang/invoke/MethodHandle" ∧ y.cls ≠ "java/lang/invoke/VarHandle")
    {W9 : Nat} {Pre : Pt → Array Value → Prop} {Post : Pt → Array Value → Option Value → Pt → Prop} {PostX : Pt → Array Value → Addr → Pt → Prop} (hK : vx_Back l R p e below s args y 3 W9 Pre Post PostX)
    {b : Addr} {cellB : Cell} (hcell : T.heap[b]? = some cellB) (hobj : cellB.vm.isStatics = false) (hcls : s.vm.findClass C = some cellB.cls)
    {g : JFrame} (hg : g.method = m) (hsize : g.locals.size = c.maxLocals) {argsL rest : List Value} (hlen : ∀ sig, parseMethodDescriptor y.desc = some sig → argsL.length = sig.parameters.length)
    (hstack : g.stack = argsL.reverse ++ .ref b :: rest) (hW : 2 * g.monitorRoom + (rest.map fun v => v.category).sum ≤ W9) (hdg : decode c.code g.pc = .ok (.invokevirtual index, 3))
    (hpre : ∀ vm₁, s.WarmedH vm₁ → Pre ⟨T.setVm vm₁, locs, cells, slots⟩ (Value.ref b :: argsL).toArray) :
    (∃ (v : Option Value) (vm₁ : Vm) (B : Pt), s.WarmedH vm₁ ∧ Stand p l e R s m args below meth c B.U B.locs B.cells B.slots ∧ Post ⟨T.setVm vm₁, locs, cells, slots⟩ (Value.ref b :: argsL).toArray v B ∧
      ∀ target, Steps p.tables e below (B.U.setTop { g with pc := g.pc + 3, stack := v.toList ++ rest }) target → Steps p.tables e below (T.setTop g) target) ∨
    (∃ (q : Addr) (vm₁ : Vm) (B : Pt), s.WarmedH vm₁ ∧ Stand p l e R s m args below meth c B.U B.locs B.cells B.slots ∧ PostX ⟨T.setVm vm₁, locs, cells, slots⟩ (Value.ref b :: argsL).toArray q B ∧
      Steps p.tables e below (T.setTop g) ((B.U.setTop { g with stack := rest }).pushFrame (.throwing q))) := by
  obtain ⟨mk, methM, hnamed, hmethM, hstM, habM⟩ := Cond.instanceMethod_spec hinst
  obtain ⟨m8, methM', cM, hn8, hmethM', -, -, -, -, -, -, hsigM⟩ := Cond.codeWith_spec hcode
  cases Option.some.inj (hn8.symm.trans hnamed)
  cases hmethM.symm.trans hmethM'
  obtain ⟨c2, r2, m2, q1, q2, q3, q4, kP, hkP, hkPi⟩ := Cond.selects_spec hsel
  cases hcls.symm.trans q1
  cases (State.methodFound?_of_named hnamed hy).symm.trans q2
  cases hnamed.symm.trans q3
  have hselP : selectMethod e.platform s.vm cellB.cls mk = .method mk := by rw [Launch.admits_selectMethod X.admits]; exact q4
  obtain ⟨vm₁, X₁, hstep₁⟩ := X.invokevirtual hexec hown hlink hnamed hmethM hstM hkP hkPi hy (a := b) (cell := cellB) hcell
    (fun z h => by rw [h] at hobj; cases hobj) hselP hmethM habM hkP hkPi (g := g) hg (argsL := argsL) (rest := rest) (hlen _ hsigM) hstack hdg
  rcases hK m meth c ⟨T.setVm vm₁, locs, cells, slots⟩ { g with stack := rest } (.invokevirtual index) mk (Value.ref b :: argsL).toArray X₁ hg hsize hdg hW (X₁.named hnamed) (hpre vm₁ X₁.warmed) with ⟨v, B, X', hpost, hsteps⟩ | ⟨q, B, X', hpost, hsteps⟩
  · exact Or.inl ⟨v, vm₁, B, X₁.warmed, X', hpost, fun target h => hstep₁ _ fun acts => by rw [doInvoke_state]; exact hsteps.trans h⟩
  · exact Or.inr ⟨q, vm₁, B, X₁.warmed, X', hpost, hstep₁ _ fun acts => by rw [doInvoke_state]; exact hsteps⟩
theorem vx_callSX (X : Stand p l e R s m args below meth c T locs cells slots) (hexec : p.tables.exec = Jvm.exec) {own : String} {index : Nat} {y : MethodName} {bytes : ByteArray} {maxL : Nat} {ret : Option FieldType} {hh : List (Nat × Nat × Nat × Nat)}
    (hown : s.vm.findClass own = some m.cls) (hlink : (Cond.methodLink own index y).before args s = true) (hstat : (Cond.static y).before args s = true) (hinit : (Cond.initialized y.cls).before args s = true)
    (hcode : (Cond.codeWith y bytes maxL ret hh).before args s = true) (hy : y.cls ≠ "java/lang/invoke/MethodHandle" ∧ y.cls ≠ "java/lang/invoke/VarHandle")
    {W9 : Nat} {Pre : Pt → Array Value → Prop} {Post : Pt → Array Value → Option Value → Pt → Prop} {PostX : Pt → Array Value → Addr → Pt → Prop} (hK : vx_Back l R p e below s args y 3 W9 Pre Post PostX)
    {g : JFrame} (hg : g.method = m) (hsize : g.locals.size = c.maxLocals) {argsL rest : List Value} (hlen : ∀ sig, parseMethodDescriptor y.desc = some sig → argsL.length = sig.parameters.length)
    (hstack : g.stack = argsL.reverse ++ rest) (hW : 2 * g.monitorRoom + (rest.map fun v => v.category).sum ≤ W9) (hdg : decode c.code g.pc = .ok (.invokestatic index, 3))
    (hpre : ∀ vm₁, s.WarmedH vm₁ → Pre ⟨T.setVm vm₁, locs, cells, slots⟩ argsL.toArray) :
    (∃ (v : Option Value) (vm₁ : Vm) (B : Pt), s.WarmedH vm₁ ∧ Stand p l e R s m args below meth c B.U B.locs B.cells B.slots ∧ Post ⟨T.setVm vm₁, locs, cells, slots⟩ argsL.toArray v B ∧
      ∀ target, Steps p.tables e below (B.U.setTop { g with pc := g.pc + 3, stack := v.toList ++ rest }) target → Steps p.tables e below (T.setTop g) target) ∨
    (∃ (q : Addr) (vm₁ : Vm) (B : Pt), s.WarmedH vm₁ ∧ Stand p l e R s m args below meth c B.U B.locs B.cells B.slots ∧ PostX ⟨T.setVm vm₁, locs, cells, slots⟩ argsL.toArray q B ∧
      Steps p.tables e below (T.setTop g) ((B.U.setTop { g with stack := rest }).pushFrame (.throwing q))) := by
  obtain ⟨mk, methM, cM, hnamed, hmethM, -, -, -, -, -, -, hsigM⟩ := Cond.codeWith_spec hcode
  have hstatic : methM.isStatic = true := Cond.static_spec hnamed hmethM hstat
  obtain ⟨kP, hkP, -⟩ := className_of_methodNamed hnamed
  have hinitP : kP.init = .initialized := Cond.initialized_spec (findClass_of_methodNamed hnamed) hkP hinit
  obtain ⟨vm₁, X₁, hstep₁⟩ := X.invokestatic hexec hown hlink hnamed hmethM hstatic hkP hinitP hy (g := g) hg (argsL := argsL) (rest := rest) (hlen _ hsigM) hstack hdg
  rcases hK m meth c ⟨T.setVm vm₁, locs, cells, slots⟩ { g with stack := rest } (.invokestatic index) mk argsL.toArray X₁ hg hsize hdg hW (X₁.named hnamed) (hpre vm₁ X₁.warmed) with ⟨v, B, X', hpost, hsteps⟩ | ⟨q, B, X', hpost, hsteps⟩
  · exact Or.inl ⟨v, vm₁, B, X₁.warmed, X', hpost, fun target h => hstep₁ _ fun acts => by rw [doInvoke_state]; exact hsteps.trans h⟩
  · exact Or.inr ⟨q, vm₁, B, X₁.warmed, X', hpost, hstep₁ _ fun acts => by rw [doInvoke_state]; exact hsteps⟩
theorem vx_callVW (X : Stand p l e R s m args below meth c T locs cells slots) (hexec : p.tables.exec = Jvm.exec) {own C : String} {index : Nat} {y : MethodName} {bytes : ByteArray} {maxL : Nat} {ret : Option FieldType} {hh : List (Nat × Nat × Nat × Nat)}
    (hown : s.vm.findClass own = some m.cls) (hlink : (Cond.methodLink own index y).before args s = true) (hinst : (Cond.instanceMethod y).before args s = true) (hsel : (Cond.selects C y y).before args s = true)
    (hcode : (Cond.codeWith y bytes maxL ret hh).before args s = true) (hy : y.cls ≠ "java/lang/invoke/MethodHandle" ∧ y.cls ≠ "java/lang/invoke/VarHandle")
    {W9 : Nat} {Pre : Pt → Array Value → Prop} {Post : Pt → Array Value → Option Value → Pt → Prop} (hK : Back l R p e below s args y 3 W9 Pre Post)
    {b : Addr} {cellB : Cell} (hcell : T.heap[b]? = some cellB) (hobj : cellB.vm.isStatics = false) (hcls : s.vm.findClass C = some cellB.cls)
    {g : JFrame} (hg : g.method = m) (hsize : g.locals.size = c.maxLocals) {argsL rest : List Value} (hlen : ∀ sig, parseMethodDescriptor y.desc = some sig → argsL.length = sig.parameters.length)
    (hstack : g.stack = argsL.reverse ++ .ref b :: rest) (hW : 2 * g.monitorRoom + (rest.map fun v => v.category).sum ≤ W9) (hdg : decode c.code g.pc = .ok (.invokevirtual index, 3))
    (hpre : ∀ vm₁, s.WarmedH vm₁ → Pre ⟨T.setVm vm₁, locs, cells, slots⟩ (Value.ref b :: argsL).toArray) :
    ∃ (v : Option Value) (vm₁ : Vm) (B : Pt), s.WarmedH vm₁ ∧ Stand p l e R s m args below meth c B.U B.locs B.cells B.slots ∧ Post ⟨T.setVm vm₁, locs, cells, slots⟩ (Value.ref b :: argsL).toArray v B ∧
      ∀ target, Steps p.tables e below (B.U.setTop { g with pc := g.pc + 3, stack := v.toList ++ rest }) target → Steps p.tables e below (T.setTop g) target := by
  obtain ⟨mk, methM, hnamed, hmethM, hstM, habM⟩ := Cond.instanceMethod_spec hinst
  obtain ⟨m8, methM', cM, hn8, hmethM', -, -, -, -, -, -, hsigM⟩ := Cond.codeWith_spec hcode
  cases Option.some.inj (hn8.symm.trans hnamed)
  cases hmethM.symm.trans hmethM'
  obtain ⟨c2, r2, m2, q1, q2, q3, q4, kP, hkP, hkPi⟩ := Cond.selects_spec hsel
  cases hcls.symm.trans q1
  cases (State.methodFound?_of_named hnamed hy).symm.trans q2
  cases hnamed.symm.trans q3
  have hselP : selectMethod e.platform s.vm cellB.cls mk = .method mk := by rw [Launch.admits_selectMethod X.admits]; exact q4
  obtain ⟨vm₁, X₁, hstep₁⟩ := X.invokevirtual hexec hown hlink hnamed hmethM hstM hkP hkPi hy (a := b) (cell := cellB) hcell
    (fun z h => by rw [h] at hobj; cases hobj) hselP hmethM habM hkP hkPi (g := g) hg (argsL := argsL) (rest := rest) (hlen _ hsigM) hstack hdg
  obtain ⟨v, B, X', hpost, hsteps⟩ := hK m meth c ⟨T.setVm vm₁, locs, cells, slots⟩ { g with stack := rest } (.invokevirtual index) mk (Value.ref b :: argsL).toArray X₁ hg hsize hdg hW (X₁.named hnamed) (hpre vm₁ X₁.warmed)
  exact ⟨v, vm₁, B, X₁.warmed, X', hpost, fun target h => hstep₁ _ fun acts => by rw [doInvoke_state]; exact hsteps.trans h⟩
abbrev vx_CVW (R : Room) (s : State) (args : Array Value) (own C : String) (index : Nat) (y : MethodName) (bytes : ByteArray) (maxL : Nat) (ret : Option FieldType) (hh : List (Nat × Nat × Nat × Nat)) (ws : List Cond) (rm : Room) (mc ms n : Nat) : Prop :=
  (rm.cells = mc ∧ rm.slots = ms ∧ rm.frames + 1 ≤ R.frames ∧ 8 + (maxL + 11) + rm.locals ≤ R.locals ∧ (∀ w ∈ ws, ∀ (a' : Array Value) (U : State), s.WarmedH U.vm → w.before a' U = true) ∧ Cond.codeWith y bytes maxL ret hh ∈ ws) ∧
  (Cond.codeWith y bytes maxL ret hh).before args s = true ∧ (Cond.initialized y.cls).before args s = true ∧ (y.cls ≠ "java/lang/invoke/MethodHandle" ∧ y.cls ≠ "java/lang/invoke/VarHandle") ∧
  (∀ sig, parseMethodDescriptor y.desc = some sig → n = sig.parameters.length) ∧ (Cond.methodLink own index y).before args s = true ∧ (Cond.instanceMethod y).before args s = true ∧ (Cond.selects C y y).before args s = true
theorem vx_cwVW {own C : String} {index maxL mc ms : Nat} {y : MethodName} {bytes : ByteArray} {ret : Option FieldType} {hh : List (Nat × Nat × Nat × Nat)} {Ts ws ws' : List Cond} {rm : Room} (n : Nat) (ht : ∀ w ∈ Ts, w.before args s = true) (hT : GoodIn Ts (wsV own index C y ws)) (hw : ws = Cond.codeWith y bytes maxL ret hh :: ws') (hrc : rm.cells = mc) (hrs : rm.slots = ms)
    (hd : y.cls = C ∧ y.cls ≠ "java/lang/invoke/MethodHandle" ∧ y.cls ≠ "java/lang/invoke/VarHandle" ∧ (parseMethodDescriptor y.desc).map (fun d => d.parameters.length) = some n) (hR : rm.frames + 1 ≤ R.frames ∧ 8 + (maxL + 11) + rm.locals ≤ R.locals) :
    vx_CVW R s args own C index y bytes maxL ret hh ws rm mc ms n := by
  obtain ⟨hC, hd⟩ := hd
  subst hC
  have ok : ∀ w ∈ wsV own index y.cls y ws, w.before args s = true := fun w h => ht w (hT w h).1
  have hG : GoodIn Ts ws := fun w h => hT w (by unfold wsV; exact List.mem_append_right _ h)
  have hc : Cond.codeWith y bytes maxL ret hh ∈ ws := by rw [hw]; exact List.mem_cons_self
  refine ⟨⟨hrc, hrs, hR.1, hR.2, pay_in ht hG, hc⟩, ht _ (hG _ hc).1, ok _ (by simp [wsV]), ⟨hd.1, hd.2.1⟩, fun sig h => ?_, ok _ (by simp [wsV]), ok _ (by simp [wsV]), ok _ (by simp [wsV])⟩
  have h2 := hd.2.2
  rw [h] at h2
  exact (Option.some.inj h2).symm
theorem vx_runVW {y : MethodName} {bytes cc : ByteArray} {maxL nL mc ms n index : Nat} {ret : Option FieldType} {hh : List (Nat × Nat × Nat × Nat)} {ws : List Cond} {rm : Room} {Pc : Array Value → State → Prop} {Qc : Array Value → State → Outcome → State → Prop} {free : Addr → Prop} {Ts : List Cond} {own C : String} {b : Addr} {As rest : List Value} {g : JFrame}
    (S : CallFix p m c cc nL s args Ts own) (hM : Met l y ws rm Pc Qc mc ms free) (cw : vx_CVW R s args own C index y bytes maxL ret hh ws rm mc ms n) (hp : PreV s H C b Pc As)
    (hg : g.method = m) (hn : As.length = n) (hsize : g.locals.size = nL) (hstack : g.stack = As.reverse ++ .ref b :: rest) (hW : 2 * g.monitorRoom + (rest.map fun v => v.category).sum ≤ 8) (hdg : decode cc g.pc = .ok (.invokevirtual index, 3)) (hf : cells + mc ≤ R.cells ∧ slots + ms ≤ R.slots) :
    va_Run p l e R s m args below meth c H locs cells slots mc ms g rest (Qc (Value.ref b :: As).toArray) free := by
  obtain ⟨⟨hrc, hrs, hfr, hlo, hws, hcw⟩, hcode, hini, hy, hlen, hl, hin, hse⟩ := cw
  have hK : Back l R p e below s args y 3 8 (PreOf R mc ms Pc) (PostOf Qc mc ms free) := va_backW (hh := hh) (bytes := bytes) (maxL := maxL) (ret := ret) hM hp.1 hrc hrs hfr hlo hws hcw (fun a' U hW => word_at hW (Or.inl (by first | rfl | simp [Cond.onTables, Cond.keeps, Cond.steady])) hini)
  obtain ⟨hx, hb, hml, ho, -⟩ := S
  obtain ⟨-, ⟨cellB, hcB, hoB, hclB⟩, hPc⟩ := hp
  intro T hT X
  obtain ⟨v, vm₁, ⟨U', l2, c2, s2⟩, hW₁, X', ⟨g', mk, t, L, e1, e2, hq, h1, hL, h2, h3⟩, st⟩ := vx_callVW X hx (C := C) (hh := hh) (bytes := bytes) (maxL := maxL) (ret := ret) ho hl hin hse hcode hy hK (by rw [hT]; exact hcB) hoB hclB hg (hsize.trans hml.symm) (argsL := As) (rest := rest) (fun sig h => hn.trans (hlen sig h)) hstack hW (by rw [hb]; exact hdg)
    (fun vm₁ hW₁ => ⟨hf.1, hf.2, hPc (T.setVm vm₁) hT hW₁⟩)
  dsimp only [Pt.U, Pt.locs, Pt.cells, Pt.slots] at X' e1 e2 h1 h2 h3 st
  subst h1; subst h2; subst h3
  exact ⟨v, (T.setVm vm₁).calling g' mk (Value.ref b :: As).toArray, t, U', L, hT, X', hL, e1, e2, hq, st⟩
section
variable {y : MethodName} {bytes cc : ByteArray} {maxL nL mc ms n index : Nat} {ret : Option FieldType} {ws : List Cond} {rm : Room} {Pc : Array Value → State → Prop} {Qc : Array Value → State → Outcome → State → Prop} {XC : String → State → State → Prop} {free : Addr → Prop} {Ts : List Cond} {own C : String} {b : Addr} {As rest : List Value} {g : JFrame}
theorem vx_runVX {hh : List (Nat × Nat × Nat × Nat)} (S : CallFix p m c cc nL s args Ts own) (hM : vx_Met l y ws rm Pc Qc XC mc ms free) (cw : vx_CVW R s args own C index y bytes maxL ret hh ws rm mc ms n) (hp : PreV s H C b Pc As)
    (hg : g.method = m) (hn : As.length = n) (hsize : g.locals.size = nL) (hstack : g.stack = As.reverse ++ .ref b :: rest) (hW : 2 * g.monitorRoom + (rest.map fun v => v.category).sum ≤ 8) (hdg : decode cc g.pc = .ok (.invokevirtual index, 3)) (hf : cells + mc ≤ R.cells ∧ slots + ms ≤ R.slots) :
    vx_Run p l e R s m args below meth c H locs cells slots mc ms g rest (Qc (Value.ref b :: As).toArray) XC free := by
  obtain ⟨⟨hrc, hrs, hfr, hlo, hws, hcw⟩, hcode, hini, hy, hlen, hl, hin, hse⟩ := cw
  have hK : vx_Back l R p e below s args y 3 8 (PreOf R mc ms Pc) (PostOf Qc mc ms free) (vx_Post XC mc ms free) := vx_backW (hh := hh) (bytes := bytes) (maxL := maxL) (ret := ret) hM hp.1 hrc hrs hfr hlo hws hcw (fun a' U hW => word_at hW (Or.inl (by first | rfl | simp [Cond.onTables, Cond.keeps, Cond.steady])) hini)
  obtain ⟨hx, hb, hml, ho, -⟩ := S
  obtain ⟨-, ⟨cellB, hcB, hoB, hclB⟩, hPc⟩ := hp
  intro T hT X
  rcases vx_callVX X hx (C := C) (hh := hh) (bytes := bytes) (maxL := maxL) (ret := ret) ho hl hin hse hcode hy hK (by rw [hT]; exact hcB) hoB hclB hg (hsize.trans hml.symm) (argsL := As) (rest := rest) (fun sig h => hn.trans (hlen sig h)) hstack hW (by rw [hb]; exact hdg)
    (fun vm₁ hW₁ => ⟨hf.1, hf.2, hPc (T.setVm vm₁) hT hW₁⟩) with ⟨v, vm₁, ⟨U', l2, c2, s2⟩, hW₁, X', ⟨g', mk, t, L, e1, e2, hq, h1, hL, h2, h3⟩, st⟩ | ⟨q, vm₁, ⟨U', l2, c2, s2⟩, hW₁, X', ⟨g', mk, t, L, E, ce, e1, e2, hq, hce, hcv, hcl, h1, hL, h2, h3⟩, st⟩
  · dsimp only [Pt.U, Pt.locs, Pt.cells, Pt.slots] at X' e1 e2 h1 h2 h3 st
    subst h1; subst h2; subst h3
    exact Or.inl ⟨v, (T.setVm vm₁).calling g' mk (Value.ref b :: As).toArray, t, U', L, hT, X', hL, e1, e2, hq, st⟩
  · dsimp only [Pt.U, Pt.locs, Pt.cells, Pt.slots] at X' e1 e2 h1 h2 h3 st hcl
    subst h1; subst h2; subst h3
    exact Or.inr ⟨q, (T.setVm vm₁).calling g' mk (Value.ref b :: As).toArray, t, U', L, E, ce, hT, X', hL, e1, e2, hq, hce, hcv, vx_cls hW₁ hcl, st⟩
theorem vx_runSX {hh : List (Nat × Nat × Nat × Nat)} (S : CallFix p m c cc nL s args Ts own) (hM : vx_Met l y ws rm Pc Qc XC mc ms free) (cw : vx_CSW R s args own index y bytes maxL ret hh ws rm mc ms n) (hp : PreS s H Pc As)
    (hg : g.method = m) (hn : As.length = n) (hsize : g.locals.size = nL) (hstack : g.stack = As.reverse ++ rest) (hW : 2 * g.monitorRoom + (rest.map fun v => v.category).sum ≤ 8) (hdg : decode cc g.pc = .ok (.invokestatic index, 3)) (hf : cells + mc ≤ R.cells ∧ slots + ms ≤ R.slots) :
    vx_Run p l e R s m args below meth c H locs cells slots mc ms g rest (Qc As.toArray) XC free := by
  obtain ⟨⟨hrc, hrs, hfr, hlo, hws, hcw⟩, hcode, hini, hy, hlen, hl, hstt⟩ := cw
  have hK : vx_Back l R p e below s args y 3 8 (PreOf R mc ms Pc) (PostOf Qc mc ms free) (vx_Post XC mc ms free) := vx_backW (hh := hh) (bytes := bytes) (maxL := maxL) (ret := ret) hM hp.1 hrc hrs hfr hlo hws hcw (fun a' U hW => word_at hW (Or.inl (by first | rfl | simp [Cond.onTables, Cond.keeps, Cond.steady])) hini)
  obtain ⟨hx, hb, hml, ho, -⟩ := S
  intro T hT X
  rcases vx_callSX X hx (hh := hh) (bytes := bytes) (maxL := maxL) (ret := ret) ho hl hstt hini hcode hy hK hg (hsize.trans hml.symm) (argsL := As) (rest := rest) (fun sig h => hn.trans (hlen sig h)) hstack hW (by rw [hb]; exact hdg)
    (fun vm₁ hW₁ => ⟨hf.1, hf.2, hp.2 (T.setVm vm₁) hT hW₁⟩) with ⟨v, vm₁, ⟨U', l2, c2, s2⟩, hW₁, X', ⟨g', mk, t, L, e1, e2, hq, h1, hL, h2, h3⟩, st⟩ | ⟨q, vm₁, ⟨U', l2, c2, s2⟩, hW₁, X', ⟨g', mk, t, L, E, ce, e1, e2, hq, hce, hcv, hcl, h1, hL, h2, h3⟩, st⟩
  · dsimp only [Pt.U, Pt.locs, Pt.cells, Pt.slots] at X' e1 e2 h1 h2 h3 st
    subst h1; subst h2; subst h3
    exact Or.inl ⟨v, (T.setVm vm₁).calling g' mk As.toArray, t, U', L, hT, X', hL, e1, e2, hq, st⟩
  · dsimp only [Pt.U, Pt.locs, Pt.cells, Pt.slots] at X' e1 e2 h1 h2 h3 st hcl
    subst h1; subst h2; subst h3
    exact Or.inr ⟨q, (T.setVm vm₁).calling g' mk As.toArray, t, U', L, E, ce, hT, X', hL, e1, e2, hq, hce, hcv, vx_cls hW₁ hcl, st⟩
end
end VXH
theorem vx_ofWH {l : Launch} {y : MethodName} {ws ws' : List Cond} {rm : Room} {Pc : Array Value → State → Prop} {Qc : Array Value → State → Outcome → State → Prop} {XC : String → State → State → Prop} {mc ms : Nat} {free : Addr → Prop} {cc : ByteArray} {maxL : Nat} {ret : Option FieldType} {hh : List (Nat × Nat × Nat × Nat)}
    (hy : plainName y.cls = true) (hw : ws = Cond.codeWith y cc maxL ret hh :: ws')
    (body : ∀ p e s m args below meth c s₁, BodyLoose p l y (headSpec ws rm) cc maxL ret e s m args below meth c s₁ → c.maxLocals = maxL → Pc args s →
      W p l e (headSpec ws rm).room s m args below meth c s.heap [] 0 0 (vx_MQ below Qc XC args s mc ms free) (entryFrame m args maxL)) : vx_Met l y ws rm Pc Qc XC mc ms free := by
  refine MetFree.of_bodyS (code := cc) (maxLocals := maxL) (ret := ret) hy ?_ ?_
  · intro args s m h hn
    obtain ⟨m9, meth, c, hn9, h1, h2, h3, h4, -, h5, h6, -⟩ := Cond.codeWith_spec (atoms_spec (ws := ws) h _ (by rw [hw]; exact List.mem_cons_self))
    cases hn.symm.trans hn9
    exact ⟨meth, c, h1, h2, h3, h4, h5, h6⟩
  · intro p e s m args below meth c s₁ B hml hP _
    have hh0 : s₁.heap = s.heap := by rw [B.state]; rfl
    obtain ⟨t, a1, o, b1, b2, b3⟩ := body p e s m args below meth c s₁ B hml hP s₁ hh0 (Stand.of_body B)
    exact ⟨t, o, a1, b1, b2, b3⟩
/-! ===== END ===== -/

/-! ===== BEGIN printed: names, fields, word lists, decode rows ===== -/
def RX0 : String := "LeaseQueue$Items"
def TX0 : u_T := fun k => match k with
  | 0 => ("LeaseQueue$Items", "made", "I", false)
  | 1 => ("LeaseQueue$Items", "queue", "[I", true)
  | 2 => ("LeaseQueue$Items", "priority", "[I", true)
  | 3 => ("LeaseQueue$Items", "due", "[I", true)
  | 4 => ("LeaseQueue$Items", "body", "[I", true)
  | 5 => ("LeaseQueue$Items", "key", "[I", true)
  | 6 => ("LeaseQueue$Items", "state", "[I", true)
  | 7 => ("LeaseQueue$Items", "consumer", "[I", true)
  | 8 => ("LeaseQueue$Items", "until", "[I", true)
  | 9 => ("LeaseQueue$Items", "tries", "[I", true)
  | 10 => ("LeaseQueue$Items", "waitsMany", "[I", true)
  | _ => ("LeaseQueue$Items", "waits", "[[I", true)
def tyX0 : Nat → FieldType := fun k => match k with
  | 0 => .int
  | 1 => .array .int
  | 2 => .array .int
  | 3 => .array .int
  | 4 => .array .int
  | 5 => .array .int
  | 6 => .array .int
  | 7 => .array .int
  | 8 => .array .int
  | 9 => .array .int
  | 10 => .array .int
  | _ => .array (.array .int)
abbrev wsX00 : List Cond := u_ws RX0 TX0 12
theorem nmX0 : ∀ a, a < 12 → ∀ b, b < 12 → a ≠ b → (TX0 a).2.1 ≠ (TX0 b).2.1 := by decide +kernel
theorem tyX0_ok : ∀ k, k < 12 → parseFieldDescriptor (TX0 k).2.2.1 = some (tyX0 k) := by decide +kernel
abbrev cX0_init : ByteArray := prog_2_method_1_code
def yX0_init : MethodName := ⟨RX0, "<init>", "()V"⟩
abbrev cX0_add : ByteArray := prog_2_method_2_code
def yX0_add : MethodName := ⟨RX0, "add", "(IIIII)I"⟩
abbrev cX0_setWaits : ByteArray := prog_2_method_3_code
def yX0_setWaits : MethodName := ⟨RX0, "setWaits", "(I[II)V"⟩
abbrev cX0_startLease : ByteArray := prog_2_method_4_code
def yX0_startLease : MethodName := ⟨RX0, "startLease", "(III)V"⟩
abbrev cX0_endLease : ByteArray := prog_2_method_5_code
def yX0_endLease : MethodName := ⟨RX0, "endLease", "(II)V"⟩
abbrev cX0_isLeasedTo : ByteArray := prog_2_method_6_code
def yX0_isLeasedTo : MethodName := ⟨RX0, "isLeasedTo", "(II)Z"⟩
abbrev cX0_isIn : ByteArray := prog_2_method_7_code
def yX0_isIn : MethodName := ⟨RX0, "isIn", "(III)Z"⟩
abbrev cX0_isReadyIn : ByteArray := prog_2_method_8_code
def yX0_isReadyIn : MethodName := ⟨RX0, "isReadyIn", "(III)Z"⟩
abbrev cX0_waitsLeft : ByteArray := prog_2_method_9_code
def yX0_waitsLeft : MethodName := ⟨RX0, "waitsLeft", "(I)I"⟩
abbrev cX0_comesBefore : ByteArray := prog_2_method_10_code
def yX0_comesBefore : MethodName := ⟨RX0, "comesBefore", "(II)Z"⟩
abbrev cX0_firstReady : ByteArray := prog_2_method_11_code
def yX0_firstReady : MethodName := ⟨RX0, "firstReady", "(II)I"⟩
abbrev cX0_firstReadyBehind : ByteArray := prog_2_method_12_code
def yX0_firstReadyBehind : MethodName := ⟨RX0, "firstReadyBehind", "(III)I"⟩
abbrev cX0_notDoneWithKey : ByteArray := prog_2_method_13_code
def yX0_notDoneWithKey : MethodName := ⟨RX0, "notDoneWithKey", "(II)I"⟩
abbrev cX0_leasedTo : ByteArray := prog_2_method_14_code
def yX0_leasedTo : MethodName := ⟨RX0, "leasedTo", "(I)I"⟩
abbrev cX0_notDone : ByteArray := prog_2_method_15_code
def yX0_notDone : MethodName := ⟨RX0, "notDone", "()I"⟩
def RX1 : String := "LeaseQueue$Throttle"
def TX1 : u_T := fun k => match k with
  | 0 => ("LeaseQueue$Throttle", "most", "I", false)
  | 1 => ("LeaseQueue$Throttle", "span", "I", false)
  | 2 => ("LeaseQueue$Throttle", "takenAt", "[I", true)
  | 3 => ("LeaseQueue$Throttle", "noted", "I", false)
  | _ => ("LeaseQueue$Throttle", "nextPlace", "I", false)
def tyX1 : Nat → FieldType := fun k => match k with
  | 0 => .int
  | 1 => .int
  | 2 => .array .int
  | 3 => .int
  | _ => .int
abbrev wsX10 : List Cond := u_ws RX1 TX1 5
theorem nmX1 : ∀ a, a < 5 → ∀ b, b < 5 → a ≠ b → (TX1 a).2.1 ≠ (TX1 b).2.1 := by decide +kernel
theorem tyX1_ok : ∀ k, k < 5 → parseFieldDescriptor (TX1 k).2.2.1 = some (tyX1 k) := by decide +kernel
abbrev cX1_init : ByteArray := prog_3_method_1_code
def yX1_init : MethodName := ⟨RX1, "<init>", "()V"⟩
abbrev cX1_note : ByteArray := prog_3_method_2_code
def yX1_note : MethodName := ⟨RX1, "note", "(I)V"⟩
abbrev cX1_unitsToWait : ByteArray := prog_3_method_3_code
def yX1_unitsToWait : MethodName := ⟨RX1, "unitsToWait", "(I)I"⟩
def RX2 : String := "LeaseQueue$Written"
def TX2 : u_T := fun k => match k with
  | 0 => ("LeaseQueue$Written", "made", "I", false)
  | 1 => ("LeaseQueue$Written", "records", "I", false)
  | 2 => ("LeaseQueue$Written", "due", "[I", true)
  | 3 => ("LeaseQueue$Written", "state", "[I", true)
  | _ => ("LeaseQueue$Written", "tries", "[I", true)
def tyX2 : Nat → FieldType := fun k => match k with
  | 0 => .int
  | 1 => .int
  | 2 => .array .int
  | 3 => .array .int
  | _ => .array .int
abbrev wsX20 : List Cond := u_ws RX2 TX2 5
theorem nmX2 : ∀ a, a < 5 → ∀ b, b < 5 → a ≠ b → (TX2 a).2.1 ≠ (TX2 b).2.1 := by decide +kernel
theorem tyX2_ok : ∀ k, k < 5 → parseFieldDescriptor (TX2 k).2.2.1 = some (tyX2 k) := by decide +kernel
abbrev cX2_init : ByteArray := prog_4_method_1_code
def yX2_init : MethodName := ⟨RX2, "<init>", "()V"⟩
abbrev cX2_keep : ByteArray := prog_4_method_2_code
def yX2_keep : MethodName := ⟨RX2, "keep", "(LLeaseQueue$Items;I)V"⟩
abbrev cX2_bringBack : ByteArray := prog_4_method_3_code
def yX2_bringBack : MethodName := ⟨RX2, "bringBack", "(LLeaseQueue$Items;)V"⟩
def RX3 : String := "LeaseQueue"
def TX3 : u_T := fun k => match k with
  | 0 => ("LeaseQueue", "items", "LLeaseQueue$Items;", true)
  | 1 => ("LeaseQueue", "written", "LLeaseQueue$Written;", true)
  | 2 => ("LeaseQueue", "throttles", "[LLeaseQueue$Throttle;", true)
  | 3 => ("LeaseQueue", "limits", "[I", true)
  | 4 => ("LeaseQueue", "queueTries", "[I", true)
  | 5 => ("LeaseQueue", "awaited", "[I", true)
  | 6 => ("LeaseQueue", "awaitedMany", "I", false)
  | 7 => ("LeaseQueue", "time", "I", false)
  | 8 => ("LeaseQueue", "safeOn", "Z", false)
  | 9 => ("LeaseQueue", "records", "I", false)
  | 10 => ("LeaseQueue", "compactings", "I", false)
  | _ => ("LeaseQueue", "crashes", "I", false)
def tyX3 : Nat → FieldType := fun k => match k with
  | 0 => .object "LeaseQueue$Items"
  | 1 => .object "LeaseQueue$Written"
  | 2 => .array (.object "LeaseQueue$Throttle")
  | 3 => .array .int
  | 4 => .array .int
  | 5 => .array .int
  | 6 => .int
  | 7 => .int
  | 8 => .boolean
  | 9 => .int
  | 10 => .int
  | _ => .int
abbrev wsX30 : List Cond := u_ws RX3 TX3 12
theorem nmX3 : ∀ a, a < 12 → ∀ b, b < 12 → a ≠ b → (TX3 a).2.1 ≠ (TX3 b).2.1 := by decide +kernel
theorem tyX3_ok : ∀ k, k < 12 → parseFieldDescriptor (TX3 k).2.2.1 = some (tyX3 k) := by decide +kernel
abbrev cX3_init : ByteArray := prog_1_method_1_code
def yX3_init : MethodName := ⟨RX3, "<init>", "()V"⟩
abbrev cX3_push : ByteArray := prog_1_method_2_code
def yX3_push : MethodName := ⟨RX3, "push", "(IIIII)I"⟩
abbrev cX3_await : ByteArray := prog_1_method_3_code
def yX3_await : MethodName := ⟨RX3, "await", "(I)I"⟩
abbrev cX3_take : ByteArray := prog_1_method_4_code
def yX3_take : MethodName := ⟨RX3, "take", "(III)I"⟩
abbrev cX3_takeAny : ByteArray := prog_1_method_5_code
def yX3_takeAny : MethodName := ⟨RX3, "takeAny", "(II)I"⟩
abbrev cX3_done : ByteArray := prog_1_method_6_code
def yX3_done : MethodName := ⟨RX3, "done", "(II)Z"⟩
abbrev cX3_fail : ByteArray := prog_1_method_7_code
def yX3_fail : MethodName := ⟨RX3, "fail", "(III)Z"⟩
abbrev cX3_extend : ByteArray := prog_1_method_8_code
def yX3_extend : MethodName := ⟨RX3, "extend", "(III)Z"⟩
abbrev cX3_chance : ByteArray := prog_1_method_9_code
def yX3_chance : MethodName := ⟨RX3, "chance", "(I)I"⟩
abbrev cX3_pass : ByteArray := prog_1_method_10_code
def yX3_pass : MethodName := ⟨RX3, "pass", "(I)I"⟩
abbrev cX3_write : ByteArray := prog_1_method_11_code
def yX3_write : MethodName := ⟨RX3, "write", "()I"⟩
abbrev cX3_crash : ByteArray := prog_1_method_12_code
def yX3_crash : MethodName := ⟨RX3, "crash", "()I"⟩
abbrev cX3_safe : ByteArray := prog_1_method_13_code
def yX3_safe : MethodName := ⟨RX3, "safe", "(Z)Z"⟩
abbrev cX3_limit : ByteArray := prog_1_method_14_code
def yX3_limit : MethodName := ⟨RX3, "limit", "(II)I"⟩
abbrev cX3_rate : ByteArray := prog_1_method_15_code
def yX3_rate : MethodName := ⟨RX3, "rate", "(III)V"⟩
abbrev cX3_tries : ByteArray := prog_1_method_16_code
def yX3_tries : MethodName := ⟨RX3, "tries", "(II)I"⟩
abbrev cX3_about : ByteArray := prog_1_method_17_code
def yX3_about : MethodName := ⟨RX3, "about", "(II)I"⟩
abbrev cX3_count : ByteArray := prog_1_method_18_code
def yX3_count : MethodName := ⟨RX3, "count", "(II)I"⟩
abbrev cX3_peek : ByteArray := prog_1_method_19_code
def yX3_peek : MethodName := ⟨RX3, "peek", "(II)I"⟩
abbrev cX3_next : ByteArray := prog_1_method_20_code
def yX3_next : MethodName := ⟨RX3, "next", "(I)I"⟩
abbrev cX3_total : ByteArray := prog_1_method_21_code
def yX3_total : MethodName := ⟨RX3, "total", "(I)I"⟩
abbrev cX3_require : ByteArray := prog_1_method_22_code
def yX3_require : MethodName := ⟨RX3, "require", "(Z)V"⟩
abbrev cX3_isWithin : ByteArray := prog_1_method_23_code
def yX3_isWithin : MethodName := ⟨RX3, "isWithin", "(III)Z"⟩
abbrev cX3_isQueue : ByteArray := prog_1_method_24_code
def yX3_isQueue : MethodName := ⟨RX3, "isQueue", "(I)Z"⟩
abbrev cX3_isConsumer : ByteArray := prog_1_method_25_code
def yX3_isConsumer : MethodName := ⟨RX3, "isConsumer", "(I)Z"⟩
abbrev cX3_isItem : ByteArray := prog_1_method_26_code
def yX3_isItem : MethodName := ⟨RX3, "isItem", "(I)Z"⟩
abbrev cX3_isAwaited : ByteArray := prog_1_method_27_code
def yX3_isAwaited : MethodName := ⟨RX3, "isAwaited", "(I)Z"⟩
abbrev cX3_hasItsLimit : ByteArray := prog_1_method_28_code
def yX3_hasItsLimit : MethodName := ⟨RX3, "hasItsLimit", "(I)Z"⟩
abbrev cX3_firstToGo : ByteArray := prog_1_method_29_code
def yX3_firstToGo : MethodName := ⟨RX3, "firstToGo", "(I)I"⟩
abbrev cX3_leaseOut : ByteArray := prog_1_method_30_code
def yX3_leaseOut : MethodName := ⟨RX3, "leaseOut", "(III)I"⟩
abbrev cX3_isTriedOut : ByteArray := prog_1_method_31_code
def yX3_isTriedOut : MethodName := ⟨RX3, "isTriedOut", "(I)Z"⟩
abbrev cX3_comeBack : ByteArray := prog_1_method_32_code
def yX3_comeBack : MethodName := ⟨RX3, "comeBack", "(I)V"⟩
abbrev cX3_readyFrom : ByteArray := prog_1_method_33_code
def yX3_readyFrom : MethodName := ⟨RX3, "readyFrom", "(I)I"⟩
abbrev cX3_writeIfSafe : ByteArray := prog_1_method_34_code
def yX3_writeIfSafe : MethodName := ⟨RX3, "writeIfSafe", "()V"⟩
abbrev cX3_writeAll : ByteArray := prog_1_method_35_code
def yX3_writeAll : MethodName := ⟨RX3, "writeAll", "()V"⟩
def RX4 : String := "LeaseQueueModel"
def TX4 : u_T := fun k => match k with
  | 0 => ("LeaseQueueModel", "items", "[I", true)
  | 1 => ("LeaseQueueModel", "size", "I", false)
  | 2 => ("LeaseQueueModel", "kept", "[I", true)
  | 3 => ("LeaseQueueModel", "keptSize", "I", false)
  | 4 => ("LeaseQueueModel", "records", "I", false)
  | 5 => ("LeaseQueueModel", "keptRecords", "I", false)
  | 6 => ("LeaseQueueModel", "compacted", "I", false)
  | 7 => ("LeaseQueueModel", "crashes", "I", false)
  | 8 => ("LeaseQueueModel", "time", "I", false)
  | 9 => ("LeaseQueueModel", "safe", "Z", false)
  | 10 => ("LeaseQueueModel", "limits", "[I", true)
  | 11 => ("LeaseQueueModel", "rates", "[I", true)
  | 12 => ("LeaseQueueModel", "spans", "[I", true)
  | 13 => ("LeaseQueueModel", "chances", "[I", true)
  | 14 => ("LeaseQueueModel", "taken", "[I", true)
  | 15 => ("LeaseQueueModel", "takenCount", "[I", true)
  | 16 => ("LeaseQueueModel", "awaited", "[I", true)
  | 17 => ("LeaseQueueModel", "awaits", "I", false)
  | _ => ("LeaseQueueModel", "thrown", "I", false)
def tyX4 : Nat → FieldType := fun k => match k with
  | 0 => .array .int
  | 1 => .int
  | 2 => .array .int
  | 3 => .int
  | 4 => .int
  | 5 => .int
  | 6 => .int
  | 7 => .int
  | 8 => .int
  | 9 => .boolean
  | 10 => .array .int
  | 11 => .array .int
  | 12 => .array .int
  | 13 => .array .int
  | 14 => .array .int
  | 15 => .array .int
  | 16 => .array .int
  | 17 => .int
  | _ => .int
abbrev wsX40 : List Cond := u_ws RX4 TX4 19
theorem nmX4 : ∀ a, a < 19 → ∀ b, b < 19 → a ≠ b → (TX4 a).2.1 ≠ (TX4 b).2.1 := by decide +kernel
theorem tyX4_ok : ∀ k, k < 19 → parseFieldDescriptor (TX4 k).2.2.1 = some (tyX4 k) := by decide +kernel
abbrev cX4_init : ByteArray := prog_6_method_1_code
def yX4_init : MethodName := ⟨RX4, "<init>", "()V"⟩
abbrev cX4_thrown : ByteArray := prog_6_method_2_code
def yX4_thrown : MethodName := ⟨RX4, "thrown", "()I"⟩
abbrev cX4_fails : ByteArray := prog_6_method_3_code
def yX4_fails : MethodName := ⟨RX4, "fails", "(ZI)Z"⟩
abbrev cX4_within : ByteArray := prog_6_method_4_code
def yX4_within : MethodName := ⟨RX4, "within", "(III)Z"⟩
abbrev cX4_isQueue : ByteArray := prog_6_method_5_code
def yX4_isQueue : MethodName := ⟨RX4, "isQueue", "(I)Z"⟩
abbrev cX4_isConsumer : ByteArray := prog_6_method_6_code
def yX4_isConsumer : MethodName := ⟨RX4, "isConsumer", "(I)Z"⟩
abbrev cX4_isItem : ByteArray := prog_6_method_7_code
def yX4_isItem : MethodName := ⟨RX4, "isItem", "(I)Z"⟩
abbrev cX4_get : ByteArray := prog_6_method_8_code
def yX4_get : MethodName := ⟨RX4, "get", "(II)I"⟩
abbrev cX4_put : ByteArray := prog_6_method_9_code
def yX4_put : MethodName := ⟨RX4, "put", "(III)V"⟩
abbrev cX4_missing : ByteArray := prog_6_method_10_code
def yX4_missing : MethodName := ⟨RX4, "missing", "(I)I"⟩
abbrev cX4_isReady : ByteArray := prog_6_method_11_code
def yX4_isReady : MethodName := ⟨RX4, "isReady", "(I)Z"⟩
abbrev cX4_isBefore : ByteArray := prog_6_method_12_code
def yX4_isBefore : MethodName := ⟨RX4, "isBefore", "(II)Z"⟩
abbrev cX4_waitOf : ByteArray := prog_6_method_13_code
def yX4_waitOf : MethodName := ⟨RX4, "waitOf", "(I)I"⟩
abbrev cX4_held : ByteArray := prog_6_method_14_code
def yX4_held : MethodName := ⟨RX4, "held", "(I)I"⟩
abbrev cX4_notDone : ByteArray := prog_6_method_15_code
def yX4_notDone : MethodName := ⟨RX4, "notDone", "()I"⟩
abbrev cX4_save : ByteArray := prog_6_method_16_code
def yX4_save : MethodName := ⟨RX4, "save", "()V"⟩
abbrev cX4_saveIfSafe : ByteArray := prog_6_method_17_code
def yX4_saveIfSafe : MethodName := ⟨RX4, "saveIfSafe", "()V"⟩
abbrev cX4_push : ByteArray := prog_6_method_18_code
def yX4_push : MethodName := ⟨RX4, "push", "(IIIII)I"⟩
abbrev cX4_await : ByteArray := prog_6_method_19_code
def yX4_await : MethodName := ⟨RX4, "await", "(I)I"⟩
abbrev cX4_first : ByteArray := prog_6_method_20_code
def yX4_first : MethodName := ⟨RX4, "first", "(I)I"⟩
abbrev cX4_lease : ByteArray := prog_6_method_21_code
def yX4_lease : MethodName := ⟨RX4, "lease", "(III)I"⟩
abbrev cX4_take : ByteArray := prog_6_method_22_code
def yX4_take : MethodName := ⟨RX4, "take", "(III)I"⟩
abbrev cX4_takeAny : ByteArray := prog_6_method_23_code
def yX4_takeAny : MethodName := ⟨RX4, "takeAny", "(II)I"⟩
abbrev cX4_has : ByteArray := prog_6_method_24_code
def yX4_has : MethodName := ⟨RX4, "has", "(II)Z"⟩
abbrev cX4_free : ByteArray := prog_6_method_25_code
def yX4_free : MethodName := ⟨RX4, "free", "(II)V"⟩
abbrev cX4_isSpent : ByteArray := prog_6_method_26_code
def yX4_isSpent : MethodName := ⟨RX4, "isSpent", "(I)Z"⟩
abbrev cX4_done : ByteArray := prog_6_method_27_code
def yX4_done : MethodName := ⟨RX4, "done", "(II)Z"⟩
abbrev cX4_fail : ByteArray := prog_6_method_28_code
def yX4_fail : MethodName := ⟨RX4, "fail", "(III)Z"⟩
abbrev cX4_extend : ByteArray := prog_6_method_29_code
def yX4_extend : MethodName := ⟨RX4, "extend", "(III)Z"⟩
abbrev cX4_chance : ByteArray := prog_6_method_30_code
def yX4_chance : MethodName := ⟨RX4, "chance", "(I)I"⟩
abbrev cX4_pass : ByteArray := prog_6_method_31_code
def yX4_pass : MethodName := ⟨RX4, "pass", "(I)I"⟩
abbrev cX4_write : ByteArray := prog_6_method_32_code
def yX4_write : MethodName := ⟨RX4, "write", "()I"⟩
abbrev cX4_crash : ByteArray := prog_6_method_33_code
def yX4_crash : MethodName := ⟨RX4, "crash", "()I"⟩
abbrev cX4_safe : ByteArray := prog_6_method_34_code
def yX4_safe : MethodName := ⟨RX4, "safe", "(Z)Z"⟩
abbrev cX4_limit : ByteArray := prog_6_method_35_code
def yX4_limit : MethodName := ⟨RX4, "limit", "(II)I"⟩
abbrev cX4_rate : ByteArray := prog_6_method_36_code
def yX4_rate : MethodName := ⟨RX4, "rate", "(III)V"⟩
abbrev cX4_tries : ByteArray := prog_6_method_37_code
def yX4_tries : MethodName := ⟨RX4, "tries", "(II)I"⟩
abbrev cX4_about : ByteArray := prog_6_method_38_code
def yX4_about : MethodName := ⟨RX4, "about", "(II)I"⟩
abbrev cX4_count : ByteArray := prog_6_method_39_code
def yX4_count : MethodName := ⟨RX4, "count", "(II)I"⟩
abbrev cX4_peek : ByteArray := prog_6_method_40_code
def yX4_peek : MethodName := ⟨RX4, "peek", "(II)I"⟩
abbrev cX4_next : ByteArray := prog_6_method_41_code
def yX4_next : MethodName := ⟨RX4, "next", "(I)I"⟩
abbrev cX4_total : ByteArray := prog_6_method_42_code
def yX4_total : MethodName := ⟨RX4, "total", "(I)I"⟩
def RJ9 : String := "java/lang/Math"
def TJ9 : u_T := fun k => match k with
  | _ => ("", "", "", false)
def tyJ9 : Nat → FieldType := fun k => match k with
  | _ => .int
abbrev wsJ90 : List Cond := u_ws RJ9 TJ9 0
theorem nmJ9 : ∀ a, a < 0 → ∀ b, b < 0 → a ≠ b → (TJ9 a).2.1 ≠ (TJ9 b).2.1 := by decide +kernel
theorem tyJ9_ok : ∀ k, k < 0 → parseFieldDescriptor (TJ9 k).2.2.1 = some (tyJ9 k) := by decide +kernel
abbrev cJ9_floorMod_7cf53 : ByteArray := prog_10_method_50_code
def yJ9_floorMod_7cf53 : MethodName := ⟨RJ9, "floorMod", "(II)I"⟩
abbrev cJ9_max_7cf53 : ByteArray := prog_10_method_65_code
def yJ9_max_7cf53 : MethodName := ⟨RJ9, "max", "(II)I"⟩
abbrev cJ9_min_7cf53 : ByteArray := prog_10_method_69_code
def yJ9_min_7cf53 : MethodName := ⟨RJ9, "min", "(II)I"⟩
def RJ0 : String := "java/lang/String"
def TJ0 : u_T := fun k => match k with
  | _ => ("", "", "", false)
def tyJ0 : Nat → FieldType := fun k => match k with
  | _ => .int
abbrev wsJ00 : List Cond := u_ws RJ0 TJ0 0
theorem nmJ0 : ∀ a, a < 0 → ∀ b, b < 0 → a ≠ b → (TJ0 a).2.1 ≠ (TJ0 b).2.1 := by decide +kernel
theorem tyJ0_ok : ∀ k, k < 0 → parseFieldDescriptor (TJ0 k).2.2.1 = some (tyJ0 k) := by decide +kernel
def RJ10 : String := "java/lang/System"
def TJ10 : u_T := fun k => match k with
  | _ => ("", "", "", false)
def tyJ10 : Nat → FieldType := fun k => match k with
  | _ => .int
abbrev wsJ100 : List Cond := u_ws RJ10 TJ10 0
theorem nmJ10 : ∀ a, a < 0 → ∀ b, b < 0 → a ≠ b → (TJ10 a).2.1 ≠ (TJ10 b).2.1 := by decide +kernel
theorem tyJ10_ok : ∀ k, k < 0 → parseFieldDescriptor (TJ10 k).2.2.1 = some (tyJ10 k) := by decide +kernel
def RJ7 : String := "java/util/Arrays"
def TJ7 : u_T := fun k => match k with
  | _ => ("", "", "", false)
def tyJ7 : Nat → FieldType := fun k => match k with
  | _ => .int
abbrev wsJ70 : List Cond := u_ws RJ7 TJ7 0
theorem nmJ7 : ∀ a, a < 0 → ∀ b, b < 0 → a ≠ b → (TJ7 a).2.1 ≠ (TJ7 b).2.1 := by decide +kernel
theorem tyJ7_ok : ∀ k, k < 0 → parseFieldDescriptor (TJ7 k).2.2.1 = some (tyJ7 k) := by decide +kernel
abbrev cJ7_fill_53178 : ByteArray := prog_16_method_103_code
def yJ7_fill_53178 : MethodName := ⟨RJ7, "fill", "([II)V"⟩
def RL : String := "LeaseQueueLaw"
abbrev cL_push : ByteArray := method_3_code
def yL_push : MethodName := ⟨RL, "push", "(LLeaseQueue;IIIII[J)I"⟩
abbrev cL_await : ByteArray := method_4_code
def yL_await : MethodName := ⟨RL, "await", "(LLeaseQueue;I[J)I"⟩
abbrev cL_take : ByteArray := method_5_code
def yL_take : MethodName := ⟨RL, "take", "(LLeaseQueue;III[J)I"⟩
abbrev cL_takeAny : ByteArray := method_6_code
def yL_takeAny : MethodName := ⟨RL, "takeAny", "(LLeaseQueue;II[J)I"⟩
abbrev cL_done : ByteArray := method_7_code
def yL_done : MethodName := ⟨RL, "done", "(LLeaseQueue;II[J)I"⟩
abbrev cL_fail : ByteArray := method_8_code
def yL_fail : MethodName := ⟨RL, "fail", "(LLeaseQueue;III[J)I"⟩
abbrev cL_extend : ByteArray := method_9_code
def yL_extend : MethodName := ⟨RL, "extend", "(LLeaseQueue;III[J)I"⟩
abbrev cL_chance : ByteArray := method_10_code
def yL_chance : MethodName := ⟨RL, "chance", "(LLeaseQueue;I[J)I"⟩
abbrev cL_pass : ByteArray := method_11_code
def yL_pass : MethodName := ⟨RL, "pass", "(LLeaseQueue;I[J)I"⟩
abbrev cL_limit : ByteArray := method_12_code
def yL_limit : MethodName := ⟨RL, "limit", "(LLeaseQueue;II[J)I"⟩
abbrev cL_rate : ByteArray := method_13_code
def yL_rate : MethodName := ⟨RL, "rate", "(LLeaseQueue;III)I"⟩
abbrev cL_tries : ByteArray := method_14_code
def yL_tries : MethodName := ⟨RL, "tries", "(LLeaseQueue;II[J)I"⟩
abbrev cL_about : ByteArray := method_15_code
def yL_about : MethodName := ⟨RL, "about", "(LLeaseQueue;II[J)I"⟩
abbrev cL_count : ByteArray := method_16_code
def yL_count : MethodName := ⟨RL, "count", "(LLeaseQueue;II[J)I"⟩
abbrev cL_peek : ByteArray := method_17_code
def yL_peek : MethodName := ⟨RL, "peek", "(LLeaseQueue;II[J)I"⟩
abbrev cL_next : ByteArray := method_18_code
def yL_next : MethodName := ⟨RL, "next", "(LLeaseQueue;I[J)I"⟩
abbrev cL_total : ByteArray := method_19_code
def yL_total : MethodName := ⟨RL, "total", "(LLeaseQueue;I[J)I"⟩
abbrev cL_law : ByteArray := code
def yL_law : MethodName := ⟨RL, "law", "([I)Z"⟩
abbrev vwCl : List vw_C := [(RX0, TX0, 12), (RX1, TX1, 5), (RX2, TX2, 5), (RX3, TX3, 12), (RX4, TX4, 19)]
/-! ===== END names ===== -/
end
section
/-! ===== an array of arrays: what the tables say of its class ===== -/
def va_AOA (t : FieldType) (U : State) : Prop := (Cond.arrayOver (.array t)).before #[] U = true
theorem va_AOA.use {t : FieldType} {A : Array Value} {U : State} (h : va_AOA t U) : (Cond.arrayOver (.array t)).before A U = true := h
theorem zoa_spec {args : Array Value} {first s : State} {o : Option Outcome} {idx : List Nat} {t : FieldType} (h : (Cond.arrayOver (.array t)).holds args first o s idx = true) :
    ∃ comp c k, s.vm.findClass (FieldType.array t).toString = some comp ∧ (s.vm.classes.findIdx? fun x => match x.kind with | .array component _ => component == comp | _ => false) = some c ∧ s.vm.classes[c]? = some k ∧ k.kind = .array comp (.array t) ∧ s.vm.findClass ("[" ++ (FieldType.array t).toString) = some c := by
  simp only [Cond.holds, Cond.value, beq_iff_eq] at h
  cases hc : s.vm.findClass (FieldType.array t).toString with
  | none => simp [hc] at h
  | some comp =>
    simp only [hc, Option.bind_some, Option.bind_eq_some_iff, Option.map_eq_some_iff] at h
    obtain ⟨c, hi, k, hk, hb⟩ := h
    obtain ⟨hlt, hp, -⟩ := Array.findIdx?_eq_some_iff_getElem.mp hi
    have hkk : s.vm.classes[c] = k := (Array.getElem?_eq_some_iff.mp hk).2
    rw [hkk] at hp
    cases hkind : k.kind with
    | array component ty =>
      rw [hkind] at hb hp
      simp at hb hp
      exact ⟨comp, c, k, rfl, hi, hk, by rw [hkind, hp, hb.1], hb.2⟩
    | _ => rw [hkind] at hb; simp at hb
theorem va_AOA.moved {t : FieldType} {u U : State} (hvm : u.vm.Alike U.vm) (h : va_AOA t u) : va_AOA t U := by
  obtain ⟨comp, c, k, h1, h2, h3, h4, h5⟩ := zoa_spec h
  obtain ⟨k', hk', he⟩ := hvm.2.2 _ _ h3
  have hi : (U.vm.classes.findIdx? fun (x : Class) => match x.kind with | .array component _ => component == comp | _ => false) = some c := by
    exact (hvm.findIdx?_eqK _ (fun _ => rfl)).trans h2
  have hkind : k'.kind = .array comp (.array t) := by rw [he]; exact h4
  have f1 : U.vm.findClass (FieldType.array t).toString = some comp := by rw [hvm.findClass]; exact h1
  have f2 : U.vm.findClass ("[" ++ (FieldType.array t).toString) = some c := by rw [hvm.findClass]; exact h5
  unfold va_AOA Cond.before Cond.holds
  simp only [Cond.value, f1, Option.bind_some, beq_iff_eq]
  rw [Option.bind_eq_some_iff]
  refine ⟨c, hi, ?_⟩
  simp [hk', hkind, f2]
end
section
section VXC
variable {p : Program} {l : Launch} {e : Env} {R : Room} {s : State} {m : MethodId} {args : Array Value} {below : List Frame} {meth : Method} {c : Code} {H : Heap} {locs : List Loc} {cells slots : Nat} {Q : State → Prop}
variable {mc ms : Nat} {free : Addr → Prop} {A0 A1 : Nat → Prop} {H0 : Heap} {a : Array Value} {pc : Nat} {ls : Array Slot} {st0 rest : List Value}
/-- caught by the row x of this method's table; the rows ahead don't take it -/
theorem vx_catch {own name : String} {E : String} {ce : Cell} {q : Addr} (hown : s.vm.findClass own = some m.cls) (pre : List ExceptionTableEntry) (x : ExceptionTableEntry) (suf : List ExceptionTableEntry) (hsplit : c.exceptionTable.toList = pre ++ x :: suf)
    (hpass : ∀ z ∈ pre, covers z pc = false ∨ (z.catchType ≠ 0 ∧ ∃ nm : String, (Cond.classLink own z.catchType nm).before args s = true ∧ va_Nc E nm s)) (hx : covers x pc = true) (h0 : x.catchType ≠ 0)
    (hlink : (Cond.classLink own x.catchType name).before args s = true) (hcast : (Cond.castable E name).before args s = true) (hcell : H[q]? = some ce) (hv : ce.vm = .none) (hcl : s.vm.findClass E = some ce.cls)
    (kk : W p l e R s m args below meth c H locs cells slots Q (F0 m x.handlerPc ls [.ref q])) : vx_W p l e R s m args below meth c H locs cells slots Q (F0 m pc ls rest) q := by
  intro T hT X
  have hpl : e.platform.magicAccessors = ({} : Platform).magicAccessors := by rw [X.admits.platform]
  obtain ⟨c3, c4, hc3, hc4, hasg⟩ := Cond.castable_spec hcast
  cases Option.some.inj (hc3.symm.trans hcl)
  obtain ⟨c5, hc5, hcl5⟩ := Cond.classLink_spec hown hlink e.platform hpl
  cases Option.some.inj (hc4.symm.trans hc5)
  obtain ⟨vm', X', st⟩ := X.thenCaughtThrough q (g := F0 m pc ls rest) rfl (Steps.refl _) (by rw [hT]; exact hcell) (by rw [hv]; rfl) (by obtain ⟨k9, h9, -⟩ := Vm.findClass_spec hcl; exact ⟨k9, h9⟩) pre x suf hsplit
    (fun z hz => by
      rcases hpass z hz with h | ⟨hz0, nm, hl1, hn1⟩
      · exact Or.inl h
      · obtain ⟨c6, hc6, hcl6⟩ := Cond.classLink_spec hown hl1 e.platform hpl
        obtain ⟨a8, b8, h1, h2, h3⟩ := hn1
        cases Option.some.inj (h1.symm.trans hcl)
        cases Option.some.inj (h2.symm.trans hc6)
        exact Or.inr ⟨hz0, _, hcl6, h3⟩) hx (Or.inr ⟨h0, c4, hcl5, hasg⟩)
  obtain ⟨t, a1, b1⟩ := kk (T.setVm vm') hT X'
  exact ⟨t, st.trans a1, b1⟩
end VXC
/-- not caught here, past rows that name other classes: it goes on to the caller -/
theorem vx_outP {p : Program} {l : Launch} {e : Env} {R : Room} {s : State} {m : MethodId} {args : Array Value} {below : List Frame} {meth : Method} {c : Code} {H : Heap} {locs : List Loc} {cells slots : Nat} {free : Addr → Prop} {ls : Array Slot} {rest : List Value} {Qc : Array Value → State → Outcome → State → Prop} {XC : String → State → State → Prop}
    {pc : Nat} {own E : String} {ce : Cell} {q : Addr} {mc ms : Nat} (hown : s.vm.findClass own = some m.cls) (hlocks : meth.locks = false)
    (hpass : ∀ z ∈ c.exceptionTable.toList, covers z pc = false ∨ (z.catchType ≠ 0 ∧ ∃ nm : String, (Cond.classLink own z.catchType nm).before args s = true ∧ va_Nc E nm s)) (hcell : H[q]? = some ce) (hv : ce.vm = .none) (hcl : s.vm.findClass E = some ce.cls)
    (hx : ∀ t : State, t.heap = H → s.vm.Alike t.vm → XC E s t) (hf : ∀ z ∈ locs, free z.base) (hc : cells ≤ mc) (hs : slots ≤ ms) :
    vx_W p l e R s m args below meth c H locs cells slots (vx_MQ below Qc XC args s mc ms free) (F0 m pc ls rest) q := by
  intro T hT X
  have hpl : e.platform.magicAccessors = ({} : Platform).magicAccessors := by rw [X.admits.platform]
  obtain ⟨vm', hW', X', st⟩ := X.outThrough hlocks q (g := F0 m pc ls rest) rfl rfl rfl (cell := ce) (by rw [hT]; exact hcell) (by rw [hv]; rfl)
    (by obtain ⟨k9, h9, -⟩ := Vm.findClass_spec hcl; exact ⟨k9, h9⟩) (fun z hz => by
      rcases hpass z hz with h | ⟨hz0, nm, hl1, hn1⟩
      · exact Or.inl h
      · obtain ⟨c6, hc6, hcl6⟩ := Cond.classLink_spec hown hl1 e.platform hpl
        obtain ⟨a8, b8, h1, h2, h3⟩ := hn1
        cases Option.some.inj (h1.symm.trans hcl)
        cases Option.some.inj (h2.symm.trans hc6)
        exact Or.inr ⟨hz0, _, hcl6, h3⟩)
  obtain ⟨g₀, hfr⟩ := X'.frames_eq
  have hcell9 : ((T.setVm vm').setFrames (.throwing q :: below)).heap[q]? = some ce := by
    show T.heap[q]? = some ce
    rw [hT]; exact hcell
  have hend : Ended ((T.setVm vm').setFrames (.throwing q :: below)) below (.threw q) := State.frames_setFrames _ (State.cur_lt_of_frames hfr)
  refine ⟨(T.setVm vm').setFrames (.throwing q :: below), ?_, .threw q, X'.here.running, hend, Or.inr ⟨q, rfl, E, ce, locs, hx _ hT (X'.ends _).1.alike, hcell9, hv, hcl, (X'.ends _).1, (X'.ends _).2.mono hc hs, hf⟩⟩
  rw [X.pushThrowing_eq]
  exact st
/-! ===== BEGIN new T[n][m]: the outer array a place, the inner ones among the pooled ===== -/
/-- f, but v at every address of l -/
def vr_up {α : Type} (f : Nat → α) (l : List Nat) (v : α) : Nat → α := fun a => if a ∈ l then v else f a
theorem vr_up_in {α : Type} {f : Nat → α} {l : List Nat} {v : α} {a : Nat} (h : a ∈ l) : vr_up f l v a = v := if_pos h
theorem vr_up_ne {α : Type} {f : Nat → α} {l : List Nat} {v : α} {a : Nat} (h : a ∉ l) : vr_up f l v a = f a := if_neg h
theorem vr_rows {L l : List Nat} {f : Nat → va_E} {e : va_E} (h : ∀ a, a ∈ l → a ∉ L) : va_pl L f ++ l.map (fun a => (a, e)) = va_pl (L ++ l) (vr_up f l e) := by
  unfold va_pl
  rw [List.map_append]
  congr 1
  · apply List.map_congr_left
    intro a ha
    rw [vr_up_ne (fun q => h a q ha)]
  · apply List.map_congr_left
    intro a ha
    rw [vr_up_in ha]
theorem vr_lay {X rows : va_W} {x : Nat × va_E} {pl : va_W} {D : va_G} {cl : List vw_C} {H : Heap} (hP : va_P D cl (((X ++ pl) ++ [x]) ++ rows) H) : va_P D cl ((X ++ [x]) ++ (pl ++ rows)) H := by
  rw [List.append_assoc (X ++ pl)] at hP
  have h := va_P.swap hP
  rw [← List.append_assoc X] at h
  have h2 := va_P.swap h
  rw [List.append_assoc (X ++ [x])] at h2
  exact h2
theorem vr_layD {X rows : va_W} {x : Nat × va_E} {pl : va_W} {A : Nat → Prop} (hD : va_D A (((X ++ pl) ++ [x]) ++ rows)) : va_D A ((X ++ [x]) ++ (pl ++ rows)) := by
  rw [List.append_assoc (X ++ pl)] at hD
  have h := va_D.swap hD
  rw [← List.append_assoc X] at h
  have h2 := va_D.swap h
  rw [List.append_assoc (X ++ [x])] at h2
  exact h2
theorem vr_outer (c : ClassId) (N h0 : Nat) : ∀ i : Nat, Jvm.Free.Multi.outerC c N h0 i = arrV c N (fun j => va_rf (if j < i then some (h0 + 1 + j) else none))
  | 0 => by
    show ({ cls := c, slots := Array.replicate N .null, vm := .none } : Cell) = _
    rw [arrV_new]
    refine congrArg (arrV c N) (funext fun j => ?_)
    simp [va_rf]
  | i + 1 => by
    show (Jvm.Free.Multi.outerC c N h0 i).setSlot i (.ref (h0 + 1 + i)) = _
    rw [vr_outer c N h0 i, arrV_store]
    refine congrArg (arrV c N) (funext fun j => ?_)
    by_cases e : j = i
    · subst e
      simp [updV, va_rf]
    · by_cases h : j < i
      · simp [updV, e, h, Nat.lt_succ_of_lt h]
      · simp [updV, e, h, show ¬ j < i + 1 by omega]
section VGM
variable {p : Program} {l : Launch} {e : Env} {R : Room} {s : State} {m : MethodId} {args : Array Value} {below : List Frame} {meth : Method} {c : Code} {H : Heap} {locs : List Loc} {cells slots : Nat} {Q : State → Prop}
variable {cc : ByteArray} {pc : Nat} {ls : Array Slot} {rest : List Value} {D : va_G} {cl : List vw_C} {A : Nat → Prop} {a : Nat} {tys : List (ClassId × FieldType)} {ws : va_W} {H0 : Heap}
theorem va_mna {X : va_W} {L : List Nat} {f : Nat → va_E} {cc : ByteArray} (hexec : p.tables.exec = Jvm.exec) (hb : c.code = cc) {own : String} {index : Nat} {ty : FieldType} {cy : ClassId} (hown : s.vm.findClass own = some m.cls) (hclink : (Cond.classLink own index ("[" ++ (FieldType.array ty).toString)).before args s = true) (hover : va_AOA ty s) (harr : (Cond.arrayClass ty).before args s = true) (hcy : s.vm.findClass (FieldType.array ty).toString = some cy)
    (hK : va_K D cl tys s) (hP : va_P D cl (X ++ va_pl L f) H) (hD : va_D A (X ++ va_pl L f)) (hS : va_S A H0 H locs) (hA : ∀ q, H0.size ≤ q → A q) {n k : Int32} {N' K' : Nat} {z : vp_A} (hn : ¬ n < 0) (hk : ¬ k < 0) (hN : n.toNatClampNeg = N') (hM : k.toNatClampNeg = K')
    (hb1 : N' * 4 ≤ 536870912) (hb2 : K' * componentBytes ty ≤ 536870912) (hb3 : K' ≤ 536870912) (hdf : fits ty (defaultValue ty) = true) (hdd : (defaultValue ty).isDefault = true) (hcells : cells + (1 + N') ≤ R.cells) (hslots : slots + (N' + N' * K') ≤ R.slots) (hz : ∀ c : ClassId, Jvm.Free.Multi.innerC c K' (defaultValue ty) = vp_cell c z) (hdg : decode cc pc = .ok (.multianewarray index 2, 4))
    (kk : ∀ (q : Nat) (r : Nat → Nat) (cA : ClassId) (H1 : Heap), (∀ i j : Nat, i < N' → j < N' → r i = r j → i = j) → (∀ i : Nat, i < N' → r i ∉ L) → va_K D cl (tys ++ [(cA, .array ty)]) s →
      va_P D cl ((X ++ [(q, .inl (cA, N', .inr (.inr (.inr (.inr (fun i => if i < N' then some (r i) else none))))))]) ++ va_pl (L ++ (List.range N').map r) (vr_up f ((List.range N').map r) (.inl (cy, z)))) H1 → va_D A ((X ++ [(q, .inl (cA, N', .inr (.inr (.inr (.inr (fun i => if i < N' then some (r i) else none))))))]) ++ va_pl (L ++ (List.range N').map r) (vr_up f ((List.range N').map r) (.inl (cy, z)))) → va_S A H0 H1 locs →
      W p l e R s m args below meth c H1 locs (cells + 1 + N') (slots + N' + N' * K') Q (F0 m (pc + 4) ls (.ref q :: rest))) : W p l e R s m args below meth c H locs cells slots Q (F0 m pc ls (.int k :: .int n :: rest)) := by
  subst hN
  subst hM
  intro T hT Xs
  obtain ⟨vm₁, cA, comp, -, fA, fC, hO, -, X', step⟩ := Xs.multianewarray2F hexec hown hclink (va_AOA.use hover) harr (g := F0 m pc ls (.int k :: .int n :: rest)) rfl (by rw [hb]; exact hdg) rfl hn hk hb1 hb2 hb3 hdf hdd hcells hslots
  have ec : some cy = some comp := hcy.symm.trans fC
  cases ec
  generalize hF : Jvm.Free.Multi.fill (T.setVm vm₁) cA cy n.toNatClampNeg k.toNatClampNeg (defaultValue ty) n.toNatClampNeg = F at X' step
  have hTh : (T.setVm vm₁).heap = H := hT
  obtain ⟨f1, f2, -, -⟩ := Jvm.Free.Multi.fill_facts (T.setVm vm₁) cA cy n.toNatClampNeg k.toNatClampNeg (defaultValue ty) n.toNatClampNeg
  rw [hF, hTh] at f1 f2
  have hold : ∀ x : Nat, x < H.size → F.heap[x]? = H[x]? := fun x hx => by
    have := Jvm.Free.Multi.fill_old (T.setVm vm₁) cA cy n.toNatClampNeg k.toNatClampNeg (defaultValue ty) (a := x) (by rw [hTh]; exact hx) n.toNatClampNeg
    rw [hF, hTh] at this
    exact this
  have hrow : ∀ j : Nat, j < n.toNatClampNeg → F.heap[H.size + 1 + j]? = some (vp_cell cy z) := fun j hj => by
    have := Jvm.Free.Multi.fill_inner (T.setVm vm₁) cA cy n.toNatClampNeg k.toNatClampNeg (defaultValue ty) n.toNatClampNeg j hj
    rw [hF, hTh, hz] at this
    exact this
  have hout : Jvm.Free.Multi.outerC cA n.toNatClampNeg H.size n.toNatClampNeg = vp_cell cA (n.toNatClampNeg, .inr (.inr (.inr (.inr (fun i => if i < n.toNatClampNeg then some (H.size + 1 + i) else none))))) := by
    rw [vp_cell_q]
    exact vr_outer cA n.toNatClampNeg H.size n.toNatClampNeg
  rw [hout] at f2
  have hlt : ∀ a, a ∈ L → a < H.size := fun a ha => by
    obtain ⟨k9, hk9⟩ := va_pl_get (X := X) (f := f) ha
    exact (hP k9 _ hk9).lt
  have hnl : ∀ i : Nat, i < n.toNatClampNeg → H.size + 1 + i ∉ L := fun i _ h => by
    have := hlt _ h
    omega
  have hnm : ∀ a, a ∈ (List.range n.toNatClampNeg).map (fun i => H.size + 1 + i) → a ∉ L := fun a ha h => by
    obtain ⟨i, -, rfl⟩ := List.mem_map.mp ha
    have := hlt _ h
    omega
  have hP0 : va_P D cl (X ++ va_pl L f) F.heap := hP.kept (fun k9 x hx => hold x.1 ((hP k9 x hx).lt))
  have hP1 : va_P D cl ((X ++ va_pl L f) ++ [(H.size, .inl (cA, n.toNatClampNeg, .inr (.inr (.inr (.inr (fun i => if i < n.toNatClampNeg then some (H.size + 1 + i) else none))))))]) F.heap := hP0.app (fun k9 x hx => by
    have h0 : k9 < 1 := (List.getElem?_eq_some_iff.mp hx).1
    rw [show k9 = 0 by omega] at hx
    cases hx
    exact f2)
  have hP2 : va_P D cl (((X ++ va_pl L f) ++ [(H.size, .inl (cA, n.toNatClampNeg, .inr (.inr (.inr (.inr (fun i => if i < n.toNatClampNeg then some (H.size + 1 + i) else none))))))]) ++ ((List.range n.toNatClampNeg).map (fun i => H.size + 1 + i)).map (fun a => (a, .inl (cy, z)))) F.heap := hP1.app (fun k9 x hx => by
    obtain ⟨a, ha, rfl⟩ := List.mem_map.mp (List.mem_of_getElem? hx)
    obtain ⟨i, hi, rfl⟩ := List.mem_map.mp ha
    exact hrow i (List.mem_range.mp hi))
  have hD2 : va_D A (((X ++ va_pl L f) ++ [(H.size, .inl (cA, n.toNatClampNeg, .inr (.inr (.inr (.inr (fun i => if i < n.toNatClampNeg then some (H.size + 1 + i) else none))))))]) ++ ((List.range n.toNatClampNeg).map (fun i => H.size + 1 + i)).map (fun a => (a, .inl (cy, z)))) := by
    have hD1 := hD.push (e := .inl (cA, n.toNatClampNeg, .inr (.inr (.inr (.inr (fun i => if i < n.toNatClampNeg then some (H.size + 1 + i) else none)))))) hP rfl (hA _ hS.1)
    generalize hW1 : (X ++ va_pl L f) ++ [(H.size, .inl (cA, n.toNatClampNeg, .inr (.inr (.inr (.inr (fun i => if i < n.toNatClampNeg then some (H.size + 1 + i) else none))))))] = W1 at hD1 hP1 ⊢
    have hle : ∀ (k9 : Nat) (x : Nat × va_E), W1[k9]? = some x → x.1 ≤ H.size := fun k9 x hx => by
      rw [← hW1] at hx
      by_cases hl : k9 < (X ++ va_pl L f).length
      · rw [List.getElem?_append_left hl] at hx
        exact Nat.le_of_lt ((hP k9 x hx).lt)
      · rw [List.getElem?_append_right (by omega)] at hx
        have h0 : k9 - (X ++ va_pl L f).length < 1 := (List.getElem?_eq_some_iff.mp hx).1
        rw [show k9 - (X ++ va_pl L f).length = 0 by omega] at hx
        cases hx
        exact Nat.le_refl _
    have hr : ∀ (k9 : Nat) (x : Nat × va_E), (((List.range n.toNatClampNeg).map (fun i => H.size + 1 + i)).map (fun a => ((a, .inl (cy, z)) : Nat × va_E)))[k9]? = some x → x.1 = H.size + 1 + k9 := fun k9 x hx => by
      rw [List.getElem?_map, List.getElem?_map] at hx
      by_cases h9 : k9 < n.toNatClampNeg
      · rw [List.getElem?_range h9] at hx
        cases hx
        rfl
      · have hn0 : (List.range n.toNatClampNeg)[k9]? = none := List.getElem?_eq_none (by rw [List.length_range]; omega)
        rw [hn0] at hx
        cases hx
    refine ⟨fun i j x y hi hj hxy => ?_, fun k9 x hx => ?_⟩
    · by_cases h1 : i < W1.length <;> by_cases h2 : j < W1.length
      · rw [List.getElem?_append_left h1] at hi
        rw [List.getElem?_append_left h2] at hj
        exact hD1.1 i j x y hi hj hxy
      · rw [List.getElem?_append_left h1] at hi
        rw [List.getElem?_append_right (by omega)] at hj
        have := hle _ _ hi
        have := hr _ _ hj
        omega
      · rw [List.getElem?_append_right (by omega)] at hi
        rw [List.getElem?_append_left h2] at hj
        have := hle _ _ hj
        have := hr _ _ hi
        omega
      · rw [List.getElem?_append_right (by omega)] at hi hj
        have := hr _ _ hi
        have := hr _ _ hj
        omega
    · by_cases h1 : k9 < W1.length
      · rw [List.getElem?_append_left h1] at hx
        exact hD1.2 k9 x hx
      · rw [List.getElem?_append_right (by omega)] at hx
        have := hr _ _ hx
        exact hA _ (by have := hS.1; omega)
  have hAr : ArrOfT s cA (.array ty) := fun N9 z9 => by
    obtain ⟨-, k9, hk9, cm9, hkk9⟩ := (hO 0 0 0).1
    exact ⟨(fun q hq => by cases hq), k9, hk9, cm9, hkk9⟩
  have hK2 : va_K D cl (tys ++ [(cA, .array ty)]) s := ⟨hK.1, fun k9 x hx => by
    by_cases hl : k9 < tys.length
    · rw [List.getElem?_append_left hl] at hx
      exact hK.2 k9 x hx
    · rw [List.getElem?_append_right (by omega)] at hx
      have h0 : k9 - tys.length < 1 := (List.getElem?_eq_some_iff.mp hx).1
      rw [show k9 - tys.length = 0 by omega] at hx
      cases hx
      exact ⟨hAr, fA⟩⟩
  obtain ⟨t, a1, b1⟩ := kk H.size (fun i => H.size + 1 + i) cA F.heap (fun i j _ _ h => by have h9 : H.size + 1 + i = H.size + 1 + j := h; omega) hnl hK2 (by rw [← vr_rows hnm]; exact vr_lay hP2) (by rw [← vr_rows hnm]; exact vr_layD hD2) ⟨by rw [f1]; have := hS.1; omega, fun x h1 h2 => (hold x (Nat.lt_of_lt_of_le h1 hS.1)).trans (hS.2.1 x h1 h2), hS.2.2⟩ F rfl X'
  refine ⟨t, step t ?_, b1⟩
  have e : T.heap.size = H.size := by rw [hT]
  rw [e]
  exact a1
end VGM
/-! ===== END ===== -/
end
section
/-! ===== the methods and their instructions, by program out of the listing: (pc, kind, number, places, targets) ===== -/
abbrev zO : Type := Nat × Int × Nat × Nat × Nat × List Nat
def zy (i : Nat) : MethodName := match i with
  | 0 => yX3_init
  | 1 => yX3_push
  | 2 => yX3_await
  | 3 => yX3_take
  | 4 => yX3_takeAny
  | 5 => yX3_done
  | 6 => yX3_fail
  | 7 => yX3_extend
  | 8 => yX3_chance
  | 9 => yX3_pass
  | 10 => yX3_write
  | 11 => yX3_crash
  | 12 => yX3_safe
  | 13 => yX3_limit
  | 14 => yX3_rate
  | 15 => yX3_tries
  | 16 => yX3_about
  | 17 => yX3_count
  | 18 => yX3_peek
  | 19 => yX3_next
  | 20 => yX3_total
  | 21 => yX3_require
  | 22 => yX3_isWithin
  | 23 => yX3_isQueue
  | 24 => yX3_isConsumer
  | 25 => yX3_isItem
  | 26 => yX3_isAwaited
  | 27 => yX3_hasItsLimit
  | 28 => yX3_firstToGo
  | 29 => yX3_leaseOut
  | 30 => yX3_isTriedOut
  | 31 => yX3_comeBack
  | 32 => yX3_readyFrom
  | 33 => yX3_writeIfSafe
  | 34 => yX3_writeAll
  | 35 => yX4_init
  | 36 => yX4_thrown
  | 37 => yX4_fails
  | 38 => yX4_within
  | 39 => yX4_isQueue
  | 40 => yX4_isConsumer
  | 41 => yX4_isItem
  | 42 => yX4_get
  | 43 => yX4_put
  | 44 => yX4_missing
  | 45 => yX4_isReady
  | 46 => yX4_isBefore
  | 47 => yX4_waitOf
  | 48 => yX4_held
  | 49 => yX4_notDone
  | 50 => yX4_save
  | 51 => yX4_saveIfSafe
  | 52 => yX4_push
  | 53 => yX4_await
  | 54 => yX4_first
  | 55 => yX4_lease
  | 56 => yX4_take
  | 57 => yX4_takeAny
  | 58 => yX4_has
  | 59 => yX4_free
  | 60 => yX4_isSpent
  | 61 => yX4_done
  | 62 => yX4_fail
  | 63 => yX4_extend
  | 64 => yX4_chance
  | 65 => yX4_pass
  | 66 => yX4_write
  | 67 => yX4_crash
  | 68 => yX4_safe
  | 69 => yX4_limit
  | 70 => yX4_rate
  | 71 => yX4_tries
  | 72 => yX4_about
  | 73 => yX4_count
  | 74 => yX4_peek
  | 75 => yX4_next
  | 76 => yX4_total
  | 77 => yX0_init
  | 78 => yX0_add
  | 79 => yX0_setWaits
  | 80 => yX0_startLease
  | 81 => yX0_endLease
  | 82 => yX0_isLeasedTo
  | 83 => yX0_isIn
  | 84 => yX0_isReadyIn
  | 85 => yX0_waitsLeft
  | 86 => yX0_comesBefore
  | 87 => yX0_firstReady
  | 88 => yX0_firstReadyBehind
  | 89 => yX0_notDoneWithKey
  | 90 => yX0_leasedTo
  | 91 => yX0_notDone
  | 92 => yX1_init
  | 93 => yX1_note
  | 94 => yX1_unitsToWait
  | 95 => yX2_init
  | 96 => yX2_keep
  | 97 => yX2_bringBack
  | 98 => yL_push
  | 99 => yL_await
  | 100 => yL_take
  | 101 => yL_takeAny
  | 102 => yL_done
  | 103 => yL_fail
  | 104 => yL_extend
  | 105 => yL_chance
  | 106 => yL_pass
  | 107 => yL_limit
  | 108 => yL_rate
  | 109 => yL_tries
  | 110 => yL_about
  | 111 => yL_count
  | 112 => yL_peek
  | 113 => yL_next
  | 114 => yL_total
  | 115 => yJ9_floorMod_7cf53
  | 116 => yJ9_max_7cf53
  | 117 => yJ9_min_7cf53
  | 118 => yJ7_fill_53178
  | 119 => yL_law
  | _ => objectInit
def zcode (i : Nat) : ByteArray := match i with
  | 0 => cX3_init
  | 1 => cX3_push
  | 2 => cX3_await
  | 3 => cX3_take
  | 4 => cX3_takeAny
  | 5 => cX3_done
  | 6 => cX3_fail
  | 7 => cX3_extend
  | 8 => cX3_chance
  | 9 => cX3_pass
  | 10 => cX3_write
  | 11 => cX3_crash
  | 12 => cX3_safe
  | 13 => cX3_limit
  | 14 => cX3_rate
  | 15 => cX3_tries
  | 16 => cX3_about
  | 17 => cX3_count
  | 18 => cX3_peek
  | 19 => cX3_next
  | 20 => cX3_total
  | 21 => cX3_require
  | 22 => cX3_isWithin
  | 23 => cX3_isQueue
  | 24 => cX3_isConsumer
  | 25 => cX3_isItem
  | 26 => cX3_isAwaited
  | 27 => cX3_hasItsLimit
  | 28 => cX3_firstToGo
  | 29 => cX3_leaseOut
  | 30 => cX3_isTriedOut
  | 31 => cX3_comeBack
  | 32 => cX3_readyFrom
  | 33 => cX3_writeIfSafe
  | 34 => cX3_writeAll
  | 35 => cX4_init
  | 36 => cX4_thrown
  | 37 => cX4_fails
  | 38 => cX4_within
  | 39 => cX4_isQueue
  | 40 => cX4_isConsumer
  | 41 => cX4_isItem
  | 42 => cX4_get
  | 43 => cX4_put
  | 44 => cX4_missing
  | 45 => cX4_isReady
  | 46 => cX4_isBefore
  | 47 => cX4_waitOf
  | 48 => cX4_held
  | 49 => cX4_notDone
  | 50 => cX4_save
  | 51 => cX4_saveIfSafe
  | 52 => cX4_push
  | 53 => cX4_await
  | 54 => cX4_first
  | 55 => cX4_lease
  | 56 => cX4_take
  | 57 => cX4_takeAny
  | 58 => cX4_has
  | 59 => cX4_free
  | 60 => cX4_isSpent
  | 61 => cX4_done
  | 62 => cX4_fail
  | 63 => cX4_extend
  | 64 => cX4_chance
  | 65 => cX4_pass
  | 66 => cX4_write
  | 67 => cX4_crash
  | 68 => cX4_safe
  | 69 => cX4_limit
  | 70 => cX4_rate
  | 71 => cX4_tries
  | 72 => cX4_about
  | 73 => cX4_count
  | 74 => cX4_peek
  | 75 => cX4_next
  | 76 => cX4_total
  | 77 => cX0_init
  | 78 => cX0_add
  | 79 => cX0_setWaits
  | 80 => cX0_startLease
  | 81 => cX0_endLease
  | 82 => cX0_isLeasedTo
  | 83 => cX0_isIn
  | 84 => cX0_isReadyIn
  | 85 => cX0_waitsLeft
  | 86 => cX0_comesBefore
  | 87 => cX0_firstReady
  | 88 => cX0_firstReadyBehind
  | 89 => cX0_notDoneWithKey
  | 90 => cX0_leasedTo
  | 91 => cX0_notDone
  | 92 => cX1_init
  | 93 => cX1_note
  | 94 => cX1_unitsToWait
  | 95 => cX2_init
  | 96 => cX2_keep
  | 97 => cX2_bringBack
  | 98 => cL_push
  | 99 => cL_await
  | 100 => cL_take
  | 101 => cL_takeAny
  | 102 => cL_done
  | 103 => cL_fail
  | 104 => cL_extend
  | 105 => cL_chance
  | 106 => cL_pass
  | 107 => cL_limit
  | 108 => cL_rate
  | 109 => cL_tries
  | 110 => cL_about
  | 111 => cL_count
  | 112 => cL_peek
  | 113 => cL_next
  | 114 => cL_total
  | 115 => cJ9_floorMod_7cf53
  | 116 => cJ9_max_7cf53
  | 117 => cJ9_min_7cf53
  | 118 => cJ7_fill_53178
  | 119 => cL_law
  | _ => ⟨#[]⟩
def zmaxL (i : Nat) : Nat := match i with
  | 0 => 2
  | 1 => 7
  | 2 => 2
  | 3 => 4
  | 4 => 6
  | 5 => 4
  | 6 => 5
  | 7 => 5
  | 8 => 4
  | 9 => 4
  | 10 => 1
  | 11 => 1
  | 12 => 3
  | 13 => 4
  | 14 => 4
  | 15 => 4
  | 16 => 3
  | 17 => 6
  | 18 => 5
  | 19 => 5
  | 20 => 2
  | 21 => 1
  | 22 => 3
  | 23 => 1
  | 24 => 1
  | 25 => 2
  | 26 => 3
  | 27 => 2
  | 28 => 2
  | 29 => 4
  | 30 => 2
  | 31 => 2
  | 32 => 2
  | 33 => 1
  | 34 => 2
  | 35 => 2
  | 36 => 1
  | 37 => 3
  | 38 => 3
  | 39 => 1
  | 40 => 1
  | 41 => 2
  | 42 => 3
  | 43 => 4
  | 44 => 4
  | 45 => 2
  | 46 => 3
  | 47 => 4
  | 48 => 4
  | 49 => 3
  | 50 => 3
  | 51 => 1
  | 52 => 8
  | 53 => 3
  | 54 => 5
  | 55 => 6
  | 56 => 4
  | 57 => 3
  | 58 => 3
  | 59 => 3
  | 60 => 2
  | 61 => 4
  | 62 => 6
  | 63 => 5
  | 64 => 4
  | 65 => 4
  | 66 => 1
  | 67 => 2
  | 68 => 3
  | 69 => 4
  | 70 => 4
  | 71 => 4
  | 72 => 3
  | 73 => 5
  | 74 => 6
  | 75 => 5
  | 76 => 2
  | 77 => 1
  | 78 => 6
  | 79 => 5
  | 80 => 4
  | 81 => 3
  | 82 => 3
  | 83 => 4
  | 84 => 4
  | 85 => 4
  | 86 => 3
  | 87 => 3
  | 88 => 6
  | 89 => 4
  | 90 => 4
  | 91 => 3
  | 92 => 1
  | 93 => 2
  | 94 => 3
  | 95 => 1
  | 96 => 3
  | 97 => 3
  | 98 => 8
  | 99 => 4
  | 100 => 6
  | 101 => 5
  | 102 => 5
  | 103 => 6
  | 104 => 6
  | 105 => 4
  | 106 => 4
  | 107 => 5
  | 108 => 5
  | 109 => 5
  | 110 => 5
  | 111 => 5
  | 112 => 5
  | 113 => 4
  | 114 => 4
  | 115 => 3
  | 116 => 2
  | 117 => 2
  | 118 => 4
  | 119 => 7
  | _ => 0
def zret (i : Nat) : Option FieldType := match i with
  | 0 => none
  | 1 => (some .int)
  | 2 => (some .int)
  | 3 => (some .int)
  | 4 => (some .int)
  | 5 => (some .boolean)
  | 6 => (some .boolean)
  | 7 => (some .boolean)
  | 8 => (some .int)
  | 9 => (some .int)
  | 10 => (some .int)
  | 11 => (some .int)
  | 12 => (some .boolean)
  | 13 => (some .int)
  | 14 => none
  | 15 => (some .int)
  | 16 => (some .int)
  | 17 => (some .int)
  | 18 => (some .int)
  | 19 => (some .int)
  | 20 => (some .int)
  | 21 => none
  | 22 => (some .boolean)
  | 23 => (some .boolean)
  | 24 => (some .boolean)
  | 25 => (some .boolean)
  | 26 => (some .boolean)
  | 27 => (some .boolean)
  | 28 => (some .int)
  | 29 => (some .int)
  | 30 => (some .boolean)
  | 31 => none
  | 32 => (some .int)
  | 33 => none
  | 34 => none
  | 35 => none
  | 36 => (some .int)
  | 37 => (some .boolean)
  | 38 => (some .boolean)
  | 39 => (some .boolean)
  | 40 => (some .boolean)
  | 41 => (some .boolean)
  | 42 => (some .int)
  | 43 => none
  | 44 => (some .int)
  | 45 => (some .boolean)
  | 46 => (some .boolean)
  | 47 => (some .int)
  | 48 => (some .int)
  | 49 => (some .int)
  | 50 => none
  | 51 => none
  | 52 => (some .int)
  | 53 => (some .int)
  | 54 => (some .int)
  | 55 => (some .int)
  | 56 => (some .int)
  | 57 => (some .int)
  | 58 => (some .boolean)
  | 59 => none
  | 60 => (some .boolean)
  | 61 => (some .boolean)
  | 62 => (some .boolean)
  | 63 => (some .boolean)
  | 64 => (some .int)
  | 65 => (some .int)
  | 66 => (some .int)
  | 67 => (some .int)
  | 68 => (some .boolean)
  | 69 => (some .int)
  | 70 => none
  | 71 => (some .int)
  | 72 => (some .int)
  | 73 => (some .int)
  | 74 => (some .int)
  | 75 => (some .int)
  | 76 => (some .int)
  | 77 => none
  | 78 => (some .int)
  | 79 => none
  | 80 => none
  | 81 => none
  | 82 => (some .boolean)
  | 83 => (some .boolean)
  | 84 => (some .boolean)
  | 85 => (some .int)
  | 86 => (some .boolean)
  | 87 => (some .int)
  | 88 => (some .int)
  | 89 => (some .int)
  | 90 => (some .int)
  | 91 => (some .int)
  | 92 => none
  | 93 => none
  | 94 => (some .int)
  | 95 => none
  | 96 => none
  | 97 => none
  | 98 => (some .int)
  | 99 => (some .int)
  | 100 => (some .int)
  | 101 => (some .int)
  | 102 => (some .int)
  | 103 => (some .int)
  | 104 => (some .int)
  | 105 => (some .int)
  | 106 => (some .int)
  | 107 => (some .int)
  | 108 => (some .int)
  | 109 => (some .int)
  | 110 => (some .int)
  | 111 => (some .int)
  | 112 => (some .int)
  | 113 => (some .int)
  | 114 => (some .int)
  | 115 => (some .int)
  | 116 => (some .int)
  | 117 => (some .int)
  | 118 => none
  | 119 => (some .boolean)
  | _ => none
def zhh (i : Nat) : List (Nat × Nat × Nat × Nat) := match i with
  | 98 => [(0, 16, 19, 13), (0, 16, 23, 15)]
  | 99 => [(0, 9, 12, 13), (0, 9, 15, 21)]
  | 100 => [(0, 12, 15, 13)]
  | 101 => [(0, 10, 13, 13)]
  | 102 => [(0, 17, 20, 13)]
  | 103 => [(0, 19, 22, 13)]
  | 104 => [(0, 19, 22, 13)]
  | 105 => [(0, 9, 12, 13)]
  | 106 => [(0, 9, 12, 13)]
  | 107 => [(0, 10, 13, 13)]
  | 108 => [(0, 7, 10, 13)]
  | 109 => [(0, 10, 13, 13)]
  | 110 => [(0, 10, 13, 13)]
  | 111 => [(0, 10, 13, 13)]
  | 112 => [(0, 10, 13, 13)]
  | 113 => [(0, 9, 12, 13)]
  | 114 => [(0, 9, 12, 13)]
  | _ => []
/-- LeaseQueue.<init>()V -/
def zo0 : List (Nat × zO) := [(0, 3, 0, 0, 0, 0, []), (1, 70, 1, 0, 0, 0, [48, 49, 50]), (4, 3, 0, 0, 0, 0, []), (5, 71, 7, 0, 12, 0, [51, 52, 30]), (8, 29, 0, 0, 0, 0, []), (9, 78, 9, 77, 0, 0, [53, 54, 30, 55]), (12, 75, 10, 3, 0, 162, []), (15, 3, 0, 0, 0, 0, []), (16, 71, 16, 2, 5, 0, [111, 112, 31]), (19, 29, 0, 0, 0, 0, []), (20, 78, 18, 95, 0, 0, [113, 114, 31, 115]), (23, 75, 19, 3, 1, 163, []), (26, 3, 0, 0, 0, 0, []), (27, 9, 4, 0, 0, 0, []), (28, 73, 23, 0, 0, 0, [134]), (31, 75, 25, 3, 2, 164, []), (34, 9, 0, 0, 0, 0, []), (35, 5, 0, 1, 0, 0, []), (36, 1, 0, 1, 0, 0, []), (37, 9, 4, 0, 0, 0, []), (38, 20, 22, 60, 3, 0, []), (41, 3, 0, 0, 0, 0, []), (42, 21, 25, 3, 2, 164, []), (45, 1, 0, 1, 0, 0, []), (46, 71, 23, 1, 5, 0, [134, 136, 32]), (49, 29, 0, 0, 0, 0, []), (50, 78, 29, 92, 0, 0, [137, 138, 32, 139]), (53, 76, 0, 0, 0, 0, []), (54, 17, 1, 1, 0, 0, []), (57, 18, (-21), 36, 0, 0, []), (60, 3, 0, 0, 0, 0, []), (61, 10, 8, 0, 0, 0, []), (63, 72, 0, 0, 0, 0, [110]), (65, 75, 30, 3, 3, 165, []), (68, 3, 0, 0, 0, 0, []), (69, 21, 30, 3, 3, 165, []), (72, 9, 3, 0, 0, 0, []), (73, 50, 34, 118, 2, 0, [159, 160, 33, 161]), (76, 3, 0, 0, 0, 0, []), (77, 9, 4, 0, 0, 0, []), (78, 72, 0, 0, 0, 0, [110]), (80, 75, 40, 3, 4, 166, []), (83, 3, 0, 0, 0, 0, []), (84, 21, 40, 3, 4, 166, []), (87, 9, 3, 0, 0, 0, []), (88, 50, 34, 118, 2, 0, [159, 160, 33, 161]), (91, 3, 0, 0, 0, 0, []), (92, 9, 3, 0, 0, 0, []), (93, 72, 0, 0, 0, 0, [110]), (95, 75, 43, 3, 5, 167, []), (98, 3, 0, 0, 0, 0, []), (99, 9, 1, 0, 0, 0, []), (100, 75, 46, 3, 8, 170, []), (103, 33, 0, 0, 0, 0, [])]
/-- LeaseQueue.push(IIIII)I -/
def zo1 : List (Nat × zO) := [(0, 1, 0, 1, 0, 0, []), (1, 50, 50, 23, 1, 0, [243, 244, 29, 245]), (4, 19, 17, 21, 0, 0, []), (7, 1, 0, 2, 0, 0, []), (8, 9, 0, 0, 0, 0, []), (9, 10, 9, 0, 0, 0, []), (11, 50, 54, 22, 3, 0, [246, 247, 29, 248]), (14, 19, 7, 21, 0, 0, []), (17, 9, 1, 0, 0, 0, []), (18, 18, 4, 22, 0, 0, []), (21, 9, 0, 0, 0, 0, []), (22, 50, 58, 21, 1, 0, [249, 250, 29, 251]), (25, 1, 0, 3, 0, 0, []), (26, 9, 0, 0, 0, 0, []), (27, 11, 1000, 0, 0, 0, []), (30, 50, 54, 22, 3, 0, [246, 247, 29, 248]), (33, 19, 12, 45, 0, 0, []), (36, 2, 0, 5, 0, 0, []), (38, 19, 7, 45, 2, 0, []), (41, 9, 1, 0, 0, 0, []), (42, 18, 4, 46, 0, 0, []), (45, 9, 0, 0, 0, 0, []), (46, 50, 58, 21, 1, 0, [249, 250, 29, 251]), (49, 3, 0, 0, 0, 0, []), (50, 21, 10, 3, 0, 162, []), (53, 21, 62, 0, 0, 61, []), (56, 11, 400, 0, 0, 0, []), (59, 20, 13, 72, 2, 0, []), (62, 36, 66, 68, 70, 2, [320, 39]), (65, 29, 0, 0, 0, 0, []), (72, 3, 0, 0, 0, 0, []), (73, 21, 10, 3, 0, 162, []), (76, 1, 0, 1, 0, 0, []), (77, 2, 0, 5, 0, 0, []), (79, 51, 73, 89, 2, 0, [336, 337, 338, 30, 339]), (82, 6, 0, 6, 0, 0, []), (84, 2, 0, 6, 0, 0, []), (86, 9, (-1), 0, 0, 0, []), (87, 20, 56, 143, 1, 0, []), (90, 3, 0, 0, 0, 0, []), (91, 21, 10, 3, 0, 162, []), (94, 1, 0, 1, 0, 0, []), (95, 1, 0, 2, 0, 0, []), (96, 3, 0, 0, 0, 0, []), (97, 21, 77, 3, 7, 169, []), (100, 1, 0, 3, 0, 0, []), (101, 12, 0, 0, 0, 0, []), (102, 2, 0, 4, 0, 0, []), (104, 2, 0, 5, 0, 0, []), (106, 51, 80, 78, 5, 0, [340, 341, 342, 30, 343]), (109, 6, 0, 6, 0, 0, []), (111, 3, 0, 0, 0, 0, []), (112, 21, 10, 3, 0, 162, []), (115, 2, 0, 6, 0, 0, []), (117, 3, 0, 0, 0, 0, []), (118, 21, 43, 3, 5, 167, []), (121, 3, 0, 0, 0, 0, []), (122, 21, 84, 3, 6, 168, []), (125, 51, 87, 79, 3, 0, [345, 346, 347, 30, 348]), (128, 3, 0, 0, 0, 0, []), (129, 9, 0, 0, 0, 0, []), (130, 22, 84, 3, 6, 168, []), (133, 3, 0, 0, 0, 0, []), (134, 29, 0, 0, 0, 0, []), (135, 21, 91, 3, 9, 171, []), (138, 9, 1, 0, 0, 0, []), (139, 12, 0, 0, 0, 0, []), (140, 22, 91, 3, 9, 171, []), (143, 3, 0, 0, 0, 0, []), (144, 51, 94, 33, 0, 0, [349, 351, 2, 29, 352]), (147, 2, 0, 6, 0, 0, []), (149, 32, 0, 0, 0, 0, [])]
/-- LeaseQueue.await(I)I -/
def zo2 : List (Nat × zO) := [(0, 3, 0, 0, 0, 0, []), (1, 1, 0, 1, 0, 0, []), (2, 51, 97, 25, 1, 0, [361, 363, 3, 29, 364]), (5, 50, 58, 21, 1, 0, [249, 250, 29, 251]), (8, 3, 0, 0, 0, 0, []), (9, 1, 0, 1, 0, 0, []), (10, 51, 100, 26, 1, 0, [365, 367, 4, 29, 368]), (13, 19, 8, 21, 0, 0, []), (16, 3, 0, 0, 0, 0, []), (17, 21, 84, 3, 6, 168, []), (20, 32, 0, 0, 0, 0, []), (21, 3, 0, 0, 0, 0, []), (22, 21, 84, 3, 6, 168, []), (25, 9, 3, 0, 0, 0, []), (26, 20, 13, 39, 2, 0, []), (29, 36, 103, 105, 107, 1, [369, 41]), (32, 29, 0, 0, 0, 0, []), (39, 3, 0, 0, 0, 0, []), (40, 21, 43, 3, 5, 167, []), (43, 3, 0, 0, 0, 0, []), (44, 21, 84, 3, 6, 168, []), (47, 1, 0, 1, 0, 0, []), (48, 24, 0, 0, 0, 0, []), (49, 3, 0, 0, 0, 0, []), (50, 29, 0, 0, 0, 0, []), (51, 21, 84, 3, 6, 168, []), (54, 9, 1, 0, 0, 0, []), (55, 12, 0, 0, 0, 0, []), (56, 22, 84, 3, 6, 168, []), (59, 3, 0, 0, 0, 0, []), (60, 21, 84, 3, 6, 168, []), (63, 32, 0, 0, 0, 0, [])]
/-- LeaseQueue.take(III)I -/
def zo3 : List (Nat × zO) := [(0, 1, 0, 1, 0, 0, []), (1, 50, 50, 23, 1, 0, [243, 244, 29, 245]), (4, 19, 25, 29, 0, 0, []), (7, 1, 0, 2, 0, 0, []), (8, 50, 108, 24, 1, 0, [392, 393, 29, 394]), (11, 19, 18, 29, 0, 0, []), (14, 1, 0, 3, 0, 0, []), (15, 9, 1, 0, 0, 0, []), (16, 11, 1000, 0, 0, 0, []), (19, 50, 54, 22, 3, 0, [246, 247, 29, 248]), (22, 19, 7, 29, 0, 0, []), (25, 9, 1, 0, 0, 0, []), (26, 18, 4, 30, 0, 0, []), (29, 9, 0, 0, 0, 0, []), (30, 50, 58, 21, 1, 0, [249, 250, 29, 251]), (33, 3, 0, 0, 0, 0, []), (34, 1, 0, 2, 0, 0, []), (35, 51, 111, 27, 1, 0, [395, 397, 5, 29, 398]), (38, 19, 5, 43, 0, 0, []), (41, 9, (-1), 0, 0, 0, []), (42, 32, 0, 0, 0, 0, []), (43, 3, 0, 0, 0, 0, []), (44, 3, 0, 0, 0, 0, []), (45, 1, 0, 1, 0, 0, []), (46, 51, 114, 28, 1, 0, [407, 409, 6, 29, 410]), (49, 1, 0, 2, 0, 0, []), (50, 1, 0, 3, 0, 0, []), (51, 51, 118, 29, 3, 0, [445, 447, 7, 29, 448]), (54, 32, 0, 0, 0, 0, [])]
/-- LeaseQueue.takeAny(II)I -/
def zo4 : List (Nat × zO) := [(0, 1, 0, 1, 0, 0, []), (1, 50, 108, 24, 1, 0, [392, 393, 29, 394]), (4, 19, 18, 22, 0, 0, []), (7, 1, 0, 2, 0, 0, []), (8, 9, 1, 0, 0, 0, []), (9, 11, 1000, 0, 0, 0, []), (12, 50, 54, 22, 3, 0, [246, 247, 29, 248]), (15, 19, 7, 22, 0, 0, []), (18, 9, 1, 0, 0, 0, []), (19, 18, 4, 23, 0, 0, []), (22, 9, 0, 0, 0, 0, []), (23, 50, 58, 21, 1, 0, [249, 250, 29, 251]), (26, 3, 0, 0, 0, 0, []), (27, 1, 0, 1, 0, 0, []), (28, 51, 111, 27, 1, 0, [395, 397, 5, 29, 398]), (31, 19, 5, 36, 0, 0, []), (34, 9, (-1), 0, 0, 0, []), (35, 32, 0, 0, 0, 0, []), (36, 9, (-1), 0, 0, 0, []), (37, 5, 0, 3, 0, 0, []), (38, 9, 0, 0, 0, 0, []), (39, 6, 0, 4, 0, 0, []), (41, 2, 0, 4, 0, 0, []), (43, 9, 4, 0, 0, 0, []), (44, 20, 44, 88, 3, 0, []), (47, 3, 0, 0, 0, 0, []), (48, 2, 0, 4, 0, 0, []), (50, 51, 114, 28, 1, 0, [407, 409, 6, 29, 410]), (53, 6, 0, 5, 0, 0, []), (55, 2, 0, 5, 0, 0, []), (57, 9, (-1), 0, 0, 0, []), (58, 20, 24, 82, 0, 0, []), (61, 1, 0, 3, 0, 0, []), (62, 9, (-1), 0, 0, 0, []), (63, 20, 16, 79, 0, 0, []), (66, 3, 0, 0, 0, 0, []), (67, 21, 10, 3, 0, 162, []), (70, 2, 0, 5, 0, 0, []), (72, 1, 0, 3, 0, 0, []), (73, 51, 122, 86, 2, 0, [467, 442, 443, 30, 444]), (76, 19, 6, 82, 0, 0, []), (79, 2, 0, 5, 0, 0, []), (81, 5, 0, 3, 0, 0, []), (82, 17, 1, 4, 0, 0, []), (85, 18, (-44), 41, 0, 0, []), (88, 3, 0, 0, 0, 0, []), (89, 1, 0, 3, 0, 0, []), (90, 1, 0, 1, 0, 0, []), (91, 1, 0, 2, 0, 0, []), (92, 51, 118, 29, 3, 0, [445, 447, 7, 29, 448]), (95, 32, 0, 0, 0, 0, [])]
/-- LeaseQueue.done(II)Z -/
def zo5 : List (Nat × zO) := [(0, 1, 0, 1, 0, 0, []), (1, 50, 108, 24, 1, 0, [392, 393, 29, 394]), (4, 19, 15, 19, 0, 0, []), (7, 3, 0, 0, 0, 0, []), (8, 1, 0, 2, 0, 0, []), (9, 51, 97, 25, 1, 0, [361, 363, 3, 29, 364]), (12, 19, 7, 19, 0, 0, []), (15, 9, 1, 0, 0, 0, []), (16, 18, 4, 20, 0, 0, []), (19, 9, 0, 0, 0, 0, []), (20, 50, 58, 21, 1, 0, [249, 250, 29, 251]), (23, 3, 0, 0, 0, 0, []), (24, 21, 10, 3, 0, 162, []), (27, 1, 0, 2, 0, 0, []), (28, 1, 0, 1, 0, 0, []), (29, 51, 126, 82, 2, 0, [475, 404, 405, 30, 406]), (32, 5, 0, 3, 0, 0, []), (33, 1, 0, 3, 0, 0, []), (34, 19, 22, 56, 0, 0, []), (37, 3, 0, 0, 0, 0, []), (38, 21, 10, 3, 0, 162, []), (41, 1, 0, 2, 0, 0, []), (42, 9, 2, 0, 0, 0, []), (43, 51, 129, 81, 2, 0, [476, 227, 228, 30, 229]), (46, 3, 0, 0, 0, 0, []), (47, 29, 0, 0, 0, 0, []), (48, 21, 91, 3, 9, 171, []), (51, 9, 1, 0, 0, 0, []), (52, 12, 0, 0, 0, 0, []), (53, 22, 91, 3, 9, 171, []), (56, 3, 0, 0, 0, 0, []), (57, 51, 94, 33, 0, 0, [349, 351, 2, 29, 352]), (60, 1, 0, 3, 0, 0, []), (61, 32, 0, 0, 0, 0, [])]
/-- LeaseQueue.fail(III)Z -/
def zo6 : List (Nat × zO) := [(0, 1, 0, 1, 0, 0, []), (1, 50, 108, 24, 1, 0, [392, 393, 29, 394]), (4, 19, 26, 30, 0, 0, []), (7, 3, 0, 0, 0, 0, []), (8, 1, 0, 2, 0, 0, []), (9, 51, 97, 25, 1, 0, [361, 363, 3, 29, 364]), (12, 19, 18, 30, 0, 0, []), (15, 1, 0, 3, 0, 0, []), (16, 9, 0, 0, 0, 0, []), (17, 11, 1000, 0, 0, 0, []), (20, 50, 54, 22, 3, 0, [246, 247, 29, 248]), (23, 19, 7, 30, 0, 0, []), (26, 9, 1, 0, 0, 0, []), (27, 18, 4, 31, 0, 0, []), (30, 9, 0, 0, 0, 0, []), (31, 50, 58, 21, 1, 0, [249, 250, 29, 251]), (34, 3, 0, 0, 0, 0, []), (35, 21, 10, 3, 0, 162, []), (38, 1, 0, 2, 0, 0, []), (39, 1, 0, 1, 0, 0, []), (40, 51, 126, 82, 2, 0, [475, 404, 405, 30, 406]), (43, 6, 0, 4, 0, 0, []), (45, 2, 0, 4, 0, 0, []), (47, 19, 31, 78, 0, 0, []), (50, 3, 0, 0, 0, 0, []), (51, 1, 0, 2, 0, 0, []), (52, 51, 133, 30, 1, 0, [484, 486, 8, 29, 487]), (55, 19, 18, 73, 1, 0, []), (58, 3, 0, 0, 0, 0, []), (59, 21, 10, 3, 0, 162, []), (62, 21, 136, 0, 3, 68, []), (65, 1, 0, 2, 0, 0, []), (66, 3, 0, 0, 0, 0, []), (67, 21, 77, 3, 7, 169, []), (70, 1, 0, 3, 0, 0, []), (71, 12, 0, 0, 0, 0, []), (72, 24, 0, 0, 0, 0, []), (73, 3, 0, 0, 0, 0, []), (74, 1, 0, 2, 0, 0, []), (75, 51, 139, 31, 1, 0, [488, 490, 9, 29, 491]), (78, 3, 0, 0, 0, 0, []), (79, 51, 94, 33, 0, 0, [349, 351, 2, 29, 352]), (82, 2, 0, 4, 0, 0, []), (84, 32, 0, 0, 0, 0, [])]
/-- LeaseQueue.extend(III)Z -/
def zo7 : List (Nat × zO) := [(0, 1, 0, 1, 0, 0, []), (1, 50, 108, 24, 1, 0, [392, 393, 29, 394]), (4, 19, 26, 30, 0, 0, []), (7, 3, 0, 0, 0, 0, []), (8, 1, 0, 2, 0, 0, []), (9, 51, 97, 25, 1, 0, [361, 363, 3, 29, 364]), (12, 19, 18, 30, 0, 0, []), (15, 1, 0, 3, 0, 0, []), (16, 9, 1, 0, 0, 0, []), (17, 11, 1000, 0, 0, 0, []), (20, 50, 54, 22, 3, 0, [246, 247, 29, 248]), (23, 19, 7, 30, 0, 0, []), (26, 9, 1, 0, 0, 0, []), (27, 18, 4, 31, 0, 0, []), (30, 9, 0, 0, 0, 0, []), (31, 50, 58, 21, 1, 0, [249, 250, 29, 251]), (34, 3, 0, 0, 0, 0, []), (35, 21, 10, 3, 0, 162, []), (38, 1, 0, 2, 0, 0, []), (39, 1, 0, 1, 0, 0, []), (40, 51, 126, 82, 2, 0, [475, 404, 405, 30, 406]), (43, 6, 0, 4, 0, 0, []), (45, 2, 0, 4, 0, 0, []), (47, 19, 18, 65, 0, 0, []), (50, 3, 0, 0, 0, 0, []), (51, 21, 10, 3, 0, 162, []), (54, 21, 143, 0, 8, 79, []), (57, 1, 0, 2, 0, 0, []), (58, 3, 0, 0, 0, 0, []), (59, 21, 77, 3, 7, 169, []), (62, 1, 0, 3, 0, 0, []), (63, 12, 0, 0, 0, 0, []), (64, 24, 0, 0, 0, 0, []), (65, 2, 0, 4, 0, 0, []), (67, 32, 0, 0, 0, 0, [])]
/-- LeaseQueue.chance(I)I -/
def zo8 : List (Nat × zO) := [(0, 1, 0, 1, 0, 0, []), (1, 50, 50, 23, 1, 0, [243, 244, 29, 245]), (4, 50, 58, 21, 1, 0, [249, 250, 29, 251]), (7, 9, 0, 0, 0, 0, []), (8, 5, 0, 2, 0, 0, []), (9, 9, 1, 0, 0, 0, []), (10, 5, 0, 3, 0, 0, []), (11, 1, 0, 3, 0, 0, []), (12, 3, 0, 0, 0, 0, []), (13, 21, 10, 3, 0, 162, []), (16, 21, 62, 0, 0, 61, []), (19, 20, 58, 77, 4, 0, []), (22, 3, 0, 0, 0, 0, []), (23, 21, 10, 3, 0, 162, []), (26, 1, 0, 3, 0, 0, []), (27, 1, 0, 1, 0, 0, []), (28, 9, 3, 0, 0, 0, []), (29, 51, 146, 83, 3, 0, [506, 434, 435, 30, 436]), (32, 19, 39, 71, 0, 0, []), (35, 3, 0, 0, 0, 0, []), (36, 21, 10, 3, 0, 162, []), (39, 21, 149, 0, 6, 75, []), (42, 1, 0, 3, 0, 0, []), (43, 9, 0, 0, 0, 0, []), (44, 24, 0, 0, 0, 0, []), (45, 3, 0, 0, 0, 0, []), (46, 21, 10, 3, 0, 162, []), (49, 21, 136, 0, 3, 68, []), (52, 1, 0, 3, 0, 0, []), (53, 3, 0, 0, 0, 0, []), (54, 21, 77, 3, 7, 169, []), (57, 24, 0, 0, 0, 0, []), (58, 3, 0, 0, 0, 0, []), (59, 21, 10, 3, 0, 162, []), (62, 21, 152, 0, 9, 82, []), (65, 1, 0, 3, 0, 0, []), (66, 9, 0, 0, 0, 0, []), (67, 24, 0, 0, 0, 0, []), (68, 17, 1, 2, 0, 0, []), (71, 17, 1, 3, 0, 0, []), (74, 18, (-63), 11, 0, 0, []), (77, 3, 0, 0, 0, 0, []), (78, 29, 0, 0, 0, 0, []), (79, 21, 91, 3, 9, 171, []), (82, 1, 0, 2, 0, 0, []), (83, 12, 0, 0, 0, 0, []), (84, 22, 91, 3, 9, 171, []), (87, 3, 0, 0, 0, 0, []), (88, 51, 94, 33, 0, 0, [349, 351, 2, 29, 352]), (91, 1, 0, 2, 0, 0, []), (92, 32, 0, 0, 0, 0, [])]
/-- LeaseQueue.pass(I)I -/
def zo9 : List (Nat × zO) := [(0, 1, 0, 1, 0, 0, []), (1, 9, 0, 0, 0, 0, []), (2, 11, 2000, 0, 0, 0, []), (5, 50, 54, 22, 3, 0, [246, 247, 29, 248]), (8, 50, 58, 21, 1, 0, [249, 250, 29, 251]), (11, 3, 0, 0, 0, 0, []), (12, 29, 0, 0, 0, 0, []), (13, 21, 77, 3, 7, 169, []), (16, 1, 0, 1, 0, 0, []), (17, 12, 0, 0, 0, 0, []), (18, 22, 77, 3, 7, 169, []), (21, 9, 0, 0, 0, 0, []), (22, 5, 0, 2, 0, 0, []), (23, 9, 1, 0, 0, 0, []), (24, 5, 0, 3, 0, 0, []), (25, 1, 0, 3, 0, 0, []), (26, 3, 0, 0, 0, 0, []), (27, 21, 10, 3, 0, 162, []), (30, 21, 62, 0, 0, 61, []), (33, 20, 46, 79, 4, 0, []), (36, 3, 0, 0, 0, 0, []), (37, 21, 10, 3, 0, 162, []), (40, 21, 149, 0, 6, 75, []), (43, 1, 0, 3, 0, 0, []), (44, 23, 0, 0, 0, 0, []), (45, 9, 1, 0, 0, 0, []), (46, 20, 27, 73, 1, 0, []), (49, 3, 0, 0, 0, 0, []), (50, 21, 10, 3, 0, 162, []), (53, 21, 143, 0, 8, 79, []), (56, 1, 0, 3, 0, 0, []), (57, 23, 0, 0, 0, 0, []), (58, 3, 0, 0, 0, 0, []), (59, 21, 77, 3, 7, 169, []), (62, 20, 11, 73, 4, 0, []), (65, 3, 0, 0, 0, 0, []), (66, 1, 0, 3, 0, 0, []), (67, 51, 139, 31, 1, 0, [488, 490, 9, 29, 491]), (70, 17, 1, 2, 0, 0, []), (73, 17, 1, 3, 0, 0, []), (76, 18, (-51), 25, 0, 0, []), (79, 1, 0, 2, 0, 0, []), (80, 19, 7, 87, 5, 0, []), (83, 3, 0, 0, 0, 0, []), (84, 51, 94, 33, 0, 0, [349, 351, 2, 29, 352]), (87, 1, 0, 2, 0, 0, []), (88, 32, 0, 0, 0, 0, [])]
/-- LeaseQueue.write()I -/
def zo10 : List (Nat × zO) := [(0, 3, 0, 0, 0, 0, []), (1, 51, 155, 34, 0, 0, [203, 205, 0, 29, 206]), (4, 3, 0, 0, 0, 0, []), (5, 21, 91, 3, 9, 171, []), (8, 32, 0, 0, 0, 0, [])]
/-- LeaseQueue.crash()I -/
def zo11 : List (Nat × zO) := [(0, 3, 0, 0, 0, 0, []), (1, 21, 19, 3, 1, 163, []), (4, 3, 0, 0, 0, 0, []), (5, 21, 10, 3, 0, 162, []), (8, 51, 158, 97, 1, 0, [222, 223, 224, 31, 225]), (11, 3, 0, 0, 0, 0, []), (12, 3, 0, 0, 0, 0, []), (13, 21, 19, 3, 1, 163, []), (16, 21, 162, 2, 1, 119, []), (19, 22, 91, 3, 9, 171, []), (22, 3, 0, 0, 0, 0, []), (23, 9, 0, 0, 0, 0, []), (24, 22, 84, 3, 6, 168, []), (27, 3, 0, 0, 0, 0, []), (28, 29, 0, 0, 0, 0, []), (29, 21, 163, 3, 11, 173, []), (32, 9, 1, 0, 0, 0, []), (33, 12, 0, 0, 0, 0, []), (34, 22, 163, 3, 11, 173, []), (37, 3, 0, 0, 0, 0, []), (38, 21, 10, 3, 0, 162, []), (41, 21, 62, 0, 0, 61, []), (44, 32, 0, 0, 0, 0, [])]
/-- LeaseQueue.safe(Z)Z -/
def zo12 : List (Nat × zO) := [(0, 3, 0, 0, 0, 0, []), (1, 21, 46, 3, 8, 170, []), (4, 5, 0, 2, 0, 0, []), (5, 3, 0, 0, 0, 0, []), (6, 1, 0, 1, 0, 0, []), (7, 22, 46, 3, 8, 170, []), (10, 1, 0, 2, 0, 0, []), (11, 32, 0, 0, 0, 0, [])]
/-- LeaseQueue.limit(II)I -/
def zo13 : List (Nat × zO) := [(0, 1, 0, 1, 0, 0, []), (1, 50, 108, 24, 1, 0, [392, 393, 29, 394]), (4, 19, 17, 21, 0, 0, []), (7, 1, 0, 2, 0, 0, []), (8, 9, 0, 0, 0, 0, []), (9, 10, 20, 0, 0, 0, []), (11, 50, 54, 22, 3, 0, [246, 247, 29, 248]), (14, 19, 7, 21, 0, 0, []), (17, 9, 1, 0, 0, 0, []), (18, 18, 4, 22, 0, 0, []), (21, 9, 0, 0, 0, 0, []), (22, 50, 58, 21, 1, 0, [249, 250, 29, 251]), (25, 3, 0, 0, 0, 0, []), (26, 21, 30, 3, 3, 165, []), (29, 1, 0, 1, 0, 0, []), (30, 23, 0, 0, 0, 0, []), (31, 5, 0, 3, 0, 0, []), (32, 3, 0, 0, 0, 0, []), (33, 21, 30, 3, 3, 165, []), (36, 1, 0, 1, 0, 0, []), (37, 1, 0, 2, 0, 0, []), (38, 24, 0, 0, 0, 0, []), (39, 1, 0, 3, 0, 0, []), (40, 32, 0, 0, 0, 0, [])]
/-- LeaseQueue.rate(III)V -/
def zo14 : List (Nat × zO) := [(0, 1, 0, 1, 0, 0, []), (1, 50, 50, 23, 1, 0, [243, 244, 29, 245]), (4, 19, 28, 32, 0, 0, []), (7, 1, 0, 2, 0, 0, []), (8, 9, 0, 0, 0, 0, []), (9, 10, 100, 0, 0, 0, []), (11, 50, 54, 22, 3, 0, [246, 247, 29, 248]), (14, 19, 18, 32, 0, 0, []), (17, 1, 0, 3, 0, 0, []), (18, 9, 1, 0, 0, 0, []), (19, 11, 1000, 0, 0, 0, []), (22, 50, 54, 22, 3, 0, [246, 247, 29, 248]), (25, 19, 7, 32, 0, 0, []), (28, 9, 1, 0, 0, 0, []), (29, 18, 4, 33, 0, 0, []), (32, 9, 0, 0, 0, 0, []), (33, 50, 58, 21, 1, 0, [249, 250, 29, 251]), (36, 3, 0, 0, 0, 0, []), (37, 21, 25, 3, 2, 164, []), (40, 1, 0, 1, 0, 0, []), (41, 25, 0, 0, 0, 0, []), (42, 1, 0, 2, 0, 0, []), (43, 22, 166, 1, 0, 142, []), (46, 3, 0, 0, 0, 0, []), (47, 21, 25, 3, 2, 164, []), (50, 1, 0, 1, 0, 0, []), (51, 25, 0, 0, 0, 0, []), (52, 1, 0, 3, 0, 0, []), (53, 22, 169, 1, 1, 144, []), (56, 33, 0, 0, 0, 0, [])]
/-- LeaseQueue.tries(II)I -/
def zo15 : List (Nat × zO) := [(0, 1, 0, 1, 0, 0, []), (1, 50, 50, 23, 1, 0, [243, 244, 29, 245]), (4, 19, 17, 21, 0, 0, []), (7, 1, 0, 2, 0, 0, []), (8, 9, 1, 0, 0, 0, []), (9, 10, 20, 0, 0, 0, []), (11, 50, 54, 22, 3, 0, [246, 247, 29, 248]), (14, 19, 7, 21, 0, 0, []), (17, 9, 1, 0, 0, 0, []), (18, 18, 4, 22, 0, 0, []), (21, 9, 0, 0, 0, 0, []), (22, 50, 58, 21, 1, 0, [249, 250, 29, 251]), (25, 3, 0, 0, 0, 0, []), (26, 21, 40, 3, 4, 166, []), (29, 1, 0, 1, 0, 0, []), (30, 23, 0, 0, 0, 0, []), (31, 5, 0, 3, 0, 0, []), (32, 3, 0, 0, 0, 0, []), (33, 21, 40, 3, 4, 166, []), (36, 1, 0, 1, 0, 0, []), (37, 1, 0, 2, 0, 0, []), (38, 24, 0, 0, 0, 0, []), (39, 1, 0, 3, 0, 0, []), (40, 32, 0, 0, 0, 0, [])]
/-- LeaseQueue.about(II)I -/
def zo16 : List (Nat × zO) := [(0, 3, 0, 0, 0, 0, []), (1, 1, 0, 1, 0, 0, []), (2, 51, 97, 25, 1, 0, [361, 363, 3, 29, 364]), (5, 19, 17, 22, 0, 0, []), (8, 1, 0, 2, 0, 0, []), (9, 9, 0, 0, 0, 0, []), (10, 10, 9, 0, 0, 0, []), (12, 50, 54, 22, 3, 0, [246, 247, 29, 248]), (15, 19, 7, 22, 0, 0, []), (18, 9, 1, 0, 0, 0, []), (19, 18, 4, 23, 0, 0, []), (22, 9, 0, 0, 0, 0, []), (23, 50, 58, 21, 1, 0, [249, 250, 29, 251]), (26, 1, 0, 2, 0, 0, []), (27, 37, 0, 166, 9, 49, [76, 86, 96, 106, 116, 126, 136, 146, 156]), (76, 3, 0, 0, 0, 0, []), (77, 21, 10, 3, 0, 162, []), (80, 21, 172, 0, 1, 63, []), (83, 1, 0, 1, 0, 0, []), (84, 23, 0, 0, 0, 0, []), (85, 32, 0, 0, 0, 0, []), (86, 3, 0, 0, 0, 0, []), (87, 21, 10, 3, 0, 162, []), (90, 21, 175, 0, 2, 65, []), (93, 1, 0, 1, 0, 0, []), (94, 23, 0, 0, 0, 0, []), (95, 32, 0, 0, 0, 0, []), (96, 3, 0, 0, 0, 0, []), (97, 21, 10, 3, 0, 162, []), (100, 21, 136, 0, 3, 68, []), (103, 1, 0, 1, 0, 0, []), (104, 23, 0, 0, 0, 0, []), (105, 32, 0, 0, 0, 0, []), (106, 3, 0, 0, 0, 0, []), (107, 21, 10, 3, 0, 162, []), (110, 21, 178, 0, 4, 70, []), (113, 1, 0, 1, 0, 0, []), (114, 23, 0, 0, 0, 0, []), (115, 32, 0, 0, 0, 0, []), (116, 3, 0, 0, 0, 0, []), (117, 21, 10, 3, 0, 162, []), (120, 21, 181, 0, 5, 72, []), (123, 1, 0, 1, 0, 0, []), (124, 23, 0, 0, 0, 0, []), (125, 32, 0, 0, 0, 0, []), (126, 3, 0, 0, 0, 0, []), (127, 21, 10, 3, 0, 162, []), (130, 21, 149, 0, 6, 75, []), (133, 1, 0, 1, 0, 0, []), (134, 23, 0, 0, 0, 0, []), (135, 32, 0, 0, 0, 0, []), (136, 3, 0, 0, 0, 0, []), (137, 21, 10, 3, 0, 162, []), (140, 21, 184, 0, 7, 77, []), (143, 1, 0, 1, 0, 0, []), (144, 23, 0, 0, 0, 0, []), (145, 32, 0, 0, 0, 0, []), (146, 3, 0, 0, 0, 0, []), (147, 21, 10, 3, 0, 162, []), (150, 21, 143, 0, 8, 79, []), (153, 1, 0, 1, 0, 0, []), (154, 23, 0, 0, 0, 0, []), (155, 32, 0, 0, 0, 0, []), (156, 3, 0, 0, 0, 0, []), (157, 21, 10, 3, 0, 162, []), (160, 21, 152, 0, 9, 82, []), (163, 1, 0, 1, 0, 0, []), (164, 23, 0, 0, 0, 0, []), (165, 32, 0, 0, 0, 0, []), (166, 3, 0, 0, 0, 0, []), (167, 21, 10, 3, 0, 162, []), (170, 1, 0, 1, 0, 0, []), (171, 51, 187, 85, 1, 0, [542, 438, 439, 30, 440]), (174, 32, 0, 0, 0, 0, [])]
/-- LeaseQueue.count(II)I -/
def zo17 : List (Nat × zO) := [(0, 1, 0, 1, 0, 0, []), (1, 50, 50, 23, 1, 0, [243, 244, 29, 245]), (4, 19, 16, 20, 0, 0, []), (7, 1, 0, 2, 0, 0, []), (8, 9, 0, 0, 0, 0, []), (9, 9, 4, 0, 0, 0, []), (10, 50, 54, 22, 3, 0, [246, 247, 29, 248]), (13, 19, 7, 20, 0, 0, []), (16, 9, 1, 0, 0, 0, []), (17, 18, 4, 21, 0, 0, []), (20, 9, 0, 0, 0, 0, []), (21, 50, 58, 21, 1, 0, [249, 250, 29, 251]), (24, 9, 0, 0, 0, 0, []), (25, 5, 0, 3, 0, 0, []), (26, 9, 1, 0, 0, 0, []), (27, 6, 0, 4, 0, 0, []), (29, 2, 0, 4, 0, 0, []), (31, 3, 0, 0, 0, 0, []), (32, 21, 10, 3, 0, 162, []), (35, 21, 62, 0, 0, 61, []), (38, 20, 52, 90, 4, 0, []), (41, 1, 0, 2, 0, 0, []), (42, 9, 4, 0, 0, 0, []), (43, 20, 20, 63, 1, 0, []), (46, 3, 0, 0, 0, 0, []), (47, 21, 10, 3, 0, 162, []), (50, 2, 0, 4, 0, 0, []), (52, 1, 0, 1, 0, 0, []), (53, 3, 0, 0, 0, 0, []), (54, 21, 77, 3, 7, 169, []), (57, 51, 190, 84, 3, 0, [550, 430, 431, 30, 432]), (60, 18, 14, 74, 0, 0, []), (63, 3, 0, 0, 0, 0, []), (64, 21, 10, 3, 0, 162, []), (67, 2, 0, 4, 0, 0, []), (69, 1, 0, 1, 0, 0, []), (70, 1, 0, 2, 0, 0, []), (71, 51, 146, 83, 3, 0, [506, 434, 435, 30, 436]), (74, 6, 0, 5, 0, 0, []), (76, 2, 0, 5, 0, 0, []), (78, 19, 6, 84, 0, 0, []), (81, 17, 1, 3, 0, 0, []), (84, 17, 1, 4, 0, 0, []), (87, 18, (-58), 29, 0, 0, []), (90, 1, 0, 3, 0, 0, []), (91, 32, 0, 0, 0, 0, [])]
/-- LeaseQueue.peek(II)I -/
def zo18 : List (Nat × zO) := [(0, 1, 0, 1, 0, 0, []), (1, 50, 50, 23, 1, 0, [243, 244, 29, 245]), (4, 50, 58, 21, 1, 0, [249, 250, 29, 251]), (7, 1, 0, 2, 0, 0, []), (8, 9, 0, 0, 0, 0, []), (9, 3, 0, 0, 0, 0, []), (10, 21, 10, 3, 0, 162, []), (13, 21, 62, 0, 0, 61, []), (16, 9, 1, 0, 0, 0, []), (17, 13, 0, 0, 0, 0, []), (18, 50, 54, 22, 3, 0, [246, 247, 29, 248]), (21, 19, 5, 26, 1, 0, []), (24, 9, (-1), 0, 0, 0, []), (25, 32, 0, 0, 0, 0, []), (26, 3, 0, 0, 0, 0, []), (27, 21, 10, 3, 0, 162, []), (30, 1, 0, 1, 0, 0, []), (31, 3, 0, 0, 0, 0, []), (32, 21, 77, 3, 7, 169, []), (35, 51, 193, 87, 2, 0, [421, 422, 423, 30, 424]), (38, 5, 0, 3, 0, 0, []), (39, 9, 0, 0, 0, 0, []), (40, 6, 0, 4, 0, 0, []), (42, 2, 0, 4, 0, 0, []), (44, 1, 0, 2, 0, 0, []), (45, 20, 28, 73, 3, 0, []), (48, 1, 0, 3, 0, 0, []), (49, 9, (-1), 0, 0, 0, []), (50, 20, 23, 73, 0, 0, []), (53, 3, 0, 0, 0, 0, []), (54, 21, 10, 3, 0, 162, []), (57, 1, 0, 3, 0, 0, []), (58, 1, 0, 1, 0, 0, []), (59, 3, 0, 0, 0, 0, []), (60, 21, 77, 3, 7, 169, []), (63, 51, 196, 88, 3, 0, [558, 426, 427, 30, 428]), (66, 5, 0, 3, 0, 0, []), (67, 17, 1, 4, 0, 0, []), (70, 18, (-28), 42, 0, 0, []), (73, 1, 0, 3, 0, 0, []), (74, 32, 0, 0, 0, 0, [])]
/-- LeaseQueue.next(I)I -/
def zo19 : List (Nat × zO) := [(0, 1, 0, 1, 0, 0, []), (1, 50, 50, 23, 1, 0, [243, 244, 29, 245]), (4, 50, 58, 21, 1, 0, [249, 250, 29, 251]), (7, 9, (-1), 0, 0, 0, []), (8, 5, 0, 2, 0, 0, []), (9, 9, 1, 0, 0, 0, []), (10, 5, 0, 3, 0, 0, []), (11, 1, 0, 3, 0, 0, []), (12, 3, 0, 0, 0, 0, []), (13, 21, 10, 3, 0, 162, []), (16, 21, 62, 0, 0, 61, []), (19, 20, 49, 68, 4, 0, []), (22, 3, 0, 0, 0, 0, []), (23, 21, 10, 3, 0, 162, []), (26, 21, 172, 0, 1, 63, []), (29, 1, 0, 3, 0, 0, []), (30, 23, 0, 0, 0, 0, []), (31, 1, 0, 1, 0, 0, []), (32, 20, 30, 62, 1, 0, []), (35, 3, 0, 0, 0, 0, []), (36, 1, 0, 3, 0, 0, []), (37, 51, 199, 32, 1, 0, [566, 568, 10, 29, 569]), (40, 6, 0, 4, 0, 0, []), (42, 2, 0, 4, 0, 0, []), (44, 9, (-1), 0, 0, 0, []), (45, 20, 17, 62, 0, 0, []), (48, 1, 0, 2, 0, 0, []), (49, 9, (-1), 0, 0, 0, []), (50, 20, 9, 59, 0, 0, []), (53, 2, 0, 4, 0, 0, []), (55, 1, 0, 2, 0, 0, []), (56, 20, 6, 62, 3, 0, []), (59, 2, 0, 4, 0, 0, []), (61, 5, 0, 2, 0, 0, []), (62, 17, 1, 3, 0, 0, []), (65, 18, (-54), 11, 0, 0, []), (68, 1, 0, 2, 0, 0, []), (69, 32, 0, 0, 0, 0, [])]
/-- LeaseQueue.total(I)I -/
def zo20 : List (Nat × zO) := [(0, 1, 0, 1, 0, 0, []), (1, 9, 0, 0, 0, 0, []), (2, 10, 8, 0, 0, 0, []), (4, 50, 54, 22, 3, 0, [246, 247, 29, 248]), (7, 50, 58, 21, 1, 0, [249, 250, 29, 251]), (10, 1, 0, 1, 0, 0, []), (11, 37, 0, 72, 5, 33, [44, 49, 57, 62, 67]), (44, 3, 0, 0, 0, 0, []), (45, 21, 77, 3, 7, 169, []), (48, 32, 0, 0, 0, 0, []), (49, 3, 0, 0, 0, 0, []), (50, 21, 10, 3, 0, 162, []), (53, 21, 62, 0, 0, 61, []), (56, 32, 0, 0, 0, 0, []), (57, 3, 0, 0, 0, 0, []), (58, 21, 91, 3, 9, 171, []), (61, 32, 0, 0, 0, 0, []), (62, 3, 0, 0, 0, 0, []), (63, 21, 202, 3, 10, 172, []), (66, 32, 0, 0, 0, 0, []), (67, 3, 0, 0, 0, 0, []), (68, 21, 163, 3, 11, 173, []), (71, 32, 0, 0, 0, 0, []), (72, 3, 0, 0, 0, 0, []), (73, 21, 25, 3, 2, 164, []), (76, 1, 0, 1, 0, 0, []), (77, 9, 5, 0, 0, 0, []), (78, 13, 0, 0, 0, 0, []), (79, 25, 0, 0, 0, 0, []), (80, 3, 0, 0, 0, 0, []), (81, 21, 77, 3, 7, 169, []), (84, 51, 205, 94, 1, 0, [411, 412, 413, 32, 414]), (87, 32, 0, 0, 0, 0, [])]
/-- LeaseQueue.require(Z)V -/
def zo21 : List (Nat × zO) := [(0, 1, 0, 0, 0, 0, []), (1, 19, 13, 14, 1, 0, []), (4, 36, 208, 210, 212, 0, [252, 38]), (7, 29, 0, 0, 0, 0, []), (14, 33, 0, 0, 0, 0, [])]
/-- LeaseQueue.isWithin(III)Z -/
def zo22 : List (Nat × zO) := [(0, 1, 0, 0, 0, 0, []), (1, 1, 0, 1, 0, 0, []), (2, 20, 12, 14, 2, 0, []), (5, 1, 0, 0, 0, 0, []), (6, 1, 0, 2, 0, 0, []), (7, 20, 7, 14, 4, 0, []), (10, 9, 1, 0, 0, 0, []), (11, 18, 4, 15, 0, 0, []), (14, 9, 0, 0, 0, 0, []), (15, 32, 0, 0, 0, 0, [])]
/-- LeaseQueue.isQueue(I)Z -/
def zo23 : List (Nat × zO) := [(0, 1, 0, 0, 0, 0, []), (1, 9, 0, 0, 0, 0, []), (2, 9, 3, 0, 0, 0, []), (3, 50, 54, 22, 3, 0, [246, 247, 29, 248]), (6, 32, 0, 0, 0, 0, [])]
/-- LeaseQueue.isConsumer(I)Z -/
def zo24 : List (Nat × zO) := [(0, 1, 0, 0, 0, 0, []), (1, 9, 0, 0, 0, 0, []), (2, 10, 7, 0, 0, 0, []), (4, 50, 54, 22, 3, 0, [246, 247, 29, 248]), (7, 32, 0, 0, 0, 0, [])]
/-- LeaseQueue.isItem(I)Z -/
def zo25 : List (Nat × zO) := [(0, 1, 0, 1, 0, 0, []), (1, 9, 1, 0, 0, 0, []), (2, 3, 0, 0, 0, 0, []), (3, 21, 10, 3, 0, 162, []), (6, 21, 62, 0, 0, 61, []), (9, 50, 54, 22, 3, 0, [246, 247, 29, 248]), (12, 32, 0, 0, 0, 0, [])]
/-- LeaseQueue.isAwaited(I)Z -/
def zo26 : List (Nat × zO) := [(0, 9, 0, 0, 0, 0, []), (1, 5, 0, 2, 0, 0, []), (2, 1, 0, 2, 0, 0, []), (3, 3, 0, 0, 0, 0, []), (4, 21, 84, 3, 6, 168, []), (7, 20, 21, 28, 3, 0, []), (10, 3, 0, 0, 0, 0, []), (11, 21, 43, 3, 5, 167, []), (14, 1, 0, 2, 0, 0, []), (15, 23, 0, 0, 0, 0, []), (16, 1, 0, 1, 0, 0, []), (17, 20, 5, 22, 1, 0, []), (20, 9, 1, 0, 0, 0, []), (21, 32, 0, 0, 0, 0, []), (22, 17, 1, 2, 0, 0, []), (25, 18, (-23), 2, 0, 0, []), (28, 9, 0, 0, 0, 0, []), (29, 32, 0, 0, 0, 0, [])]
/-- LeaseQueue.hasItsLimit(I)Z -/
def zo27 : List (Nat × zO) := [(0, 3, 0, 0, 0, 0, []), (1, 21, 10, 3, 0, 162, []), (4, 1, 0, 1, 0, 0, []), (5, 51, 213, 90, 1, 0, [399, 400, 401, 30, 402]), (8, 3, 0, 0, 0, 0, []), (9, 21, 30, 3, 3, 165, []), (12, 1, 0, 1, 0, 0, []), (13, 23, 0, 0, 0, 0, []), (14, 20, 7, 21, 2, 0, []), (17, 9, 1, 0, 0, 0, []), (18, 18, 4, 22, 0, 0, []), (21, 9, 0, 0, 0, 0, []), (22, 32, 0, 0, 0, 0, [])]
/-- LeaseQueue.firstToGo(I)I -/
def zo28 : List (Nat × zO) := [(0, 3, 0, 0, 0, 0, []), (1, 21, 25, 3, 2, 164, []), (4, 1, 0, 1, 0, 0, []), (5, 25, 0, 0, 0, 0, []), (6, 3, 0, 0, 0, 0, []), (7, 21, 77, 3, 7, 169, []), (10, 51, 205, 94, 1, 0, [411, 412, 413, 32, 414]), (13, 19, 7, 20, 5, 0, []), (16, 9, (-1), 0, 0, 0, []), (17, 18, 15, 32, 0, 0, []), (20, 3, 0, 0, 0, 0, []), (21, 21, 10, 3, 0, 162, []), (24, 1, 0, 1, 0, 0, []), (25, 3, 0, 0, 0, 0, []), (26, 21, 77, 3, 7, 169, []), (29, 51, 193, 87, 2, 0, [421, 422, 423, 30, 424]), (32, 32, 0, 0, 0, 0, [])]
/-- LeaseQueue.leaseOut(III)I -/
def zo29 : List (Nat × zO) := [(0, 1, 0, 1, 0, 0, []), (1, 9, (-1), 0, 0, 0, []), (2, 20, 49, 51, 0, 0, []), (5, 3, 0, 0, 0, 0, []), (6, 21, 10, 3, 0, 162, []), (9, 1, 0, 1, 0, 0, []), (10, 1, 0, 2, 0, 0, []), (11, 3, 0, 0, 0, 0, []), (12, 21, 77, 3, 7, 169, []), (15, 1, 0, 3, 0, 0, []), (16, 12, 0, 0, 0, 0, []), (17, 51, 216, 80, 3, 0, [449, 450, 451, 30, 452]), (20, 3, 0, 0, 0, 0, []), (21, 21, 25, 3, 2, 164, []), (24, 3, 0, 0, 0, 0, []), (25, 21, 10, 3, 0, 162, []), (28, 21, 172, 0, 1, 63, []), (31, 1, 0, 1, 0, 0, []), (32, 23, 0, 0, 0, 0, []), (33, 25, 0, 0, 0, 0, []), (34, 3, 0, 0, 0, 0, []), (35, 21, 77, 3, 7, 169, []), (38, 51, 220, 93, 1, 0, [453, 454, 455, 32, 456]), (41, 3, 0, 0, 0, 0, []), (42, 29, 0, 0, 0, 0, []), (43, 21, 91, 3, 9, 171, []), (46, 9, 1, 0, 0, 0, []), (47, 12, 0, 0, 0, 0, []), (48, 22, 91, 3, 9, 171, []), (51, 1, 0, 1, 0, 0, []), (52, 32, 0, 0, 0, 0, [])]
/-- LeaseQueue.isTriedOut(I)Z -/
def zo30 : List (Nat × zO) := [(0, 3, 0, 0, 0, 0, []), (1, 21, 10, 3, 0, 162, []), (4, 21, 152, 0, 9, 82, []), (7, 1, 0, 1, 0, 0, []), (8, 23, 0, 0, 0, 0, []), (9, 3, 0, 0, 0, 0, []), (10, 21, 40, 3, 4, 166, []), (13, 3, 0, 0, 0, 0, []), (14, 21, 10, 3, 0, 162, []), (17, 21, 172, 0, 1, 63, []), (20, 1, 0, 1, 0, 0, []), (21, 23, 0, 0, 0, 0, []), (22, 23, 0, 0, 0, 0, []), (23, 20, 7, 30, 2, 0, []), (26, 9, 1, 0, 0, 0, []), (27, 18, 4, 31, 0, 0, []), (30, 9, 0, 0, 0, 0, []), (31, 32, 0, 0, 0, 0, [])]
/-- LeaseQueue.comeBack(I)V -/
def zo31 : List (Nat × zO) := [(0, 3, 0, 0, 0, 0, []), (1, 21, 10, 3, 0, 162, []), (4, 1, 0, 1, 0, 0, []), (5, 3, 0, 0, 0, 0, []), (6, 1, 0, 1, 0, 0, []), (7, 51, 133, 30, 1, 0, [484, 486, 8, 29, 487]), (10, 19, 7, 17, 0, 0, []), (13, 9, 3, 0, 0, 0, []), (14, 18, 4, 18, 0, 0, []), (17, 9, 0, 0, 0, 0, []), (18, 51, 129, 81, 2, 0, [476, 227, 228, 30, 229]), (21, 3, 0, 0, 0, 0, []), (22, 29, 0, 0, 0, 0, []), (23, 21, 91, 3, 9, 171, []), (26, 9, 1, 0, 0, 0, []), (27, 12, 0, 0, 0, 0, []), (28, 22, 91, 3, 9, 171, []), (31, 33, 0, 0, 0, 0, [])]
/-- LeaseQueue.readyFrom(I)I -/
def zo32 : List (Nat × zO) := [(0, 3, 0, 0, 0, 0, []), (1, 21, 10, 3, 0, 162, []), (4, 1, 0, 1, 0, 0, []), (5, 51, 187, 85, 1, 0, [542, 438, 439, 30, 440]), (8, 19, 5, 13, 5, 0, []), (11, 9, (-1), 0, 0, 0, []), (12, 32, 0, 0, 0, 0, []), (13, 3, 0, 0, 0, 0, []), (14, 21, 10, 3, 0, 162, []), (17, 21, 149, 0, 6, 75, []), (20, 1, 0, 1, 0, 0, []), (21, 23, 0, 0, 0, 0, []), (22, 19, 20, 42, 1, 0, []), (25, 3, 0, 0, 0, 0, []), (26, 21, 77, 3, 7, 169, []), (29, 3, 0, 0, 0, 0, []), (30, 21, 10, 3, 0, 162, []), (33, 21, 136, 0, 3, 68, []), (36, 1, 0, 1, 0, 0, []), (37, 23, 0, 0, 0, 0, []), (38, 50, 223, 116, 2, 0, [570, 419, 42, 420]), (41, 32, 0, 0, 0, 0, []), (42, 3, 0, 0, 0, 0, []), (43, 21, 10, 3, 0, 162, []), (46, 21, 149, 0, 6, 75, []), (49, 1, 0, 1, 0, 0, []), (50, 23, 0, 0, 0, 0, []), (51, 9, 1, 0, 0, 0, []), (52, 20, 33, 85, 1, 0, []), (55, 3, 0, 0, 0, 0, []), (56, 1, 0, 1, 0, 0, []), (57, 51, 133, 30, 1, 0, [484, 486, 8, 29, 487]), (60, 19, 25, 85, 1, 0, []), (63, 3, 0, 0, 0, 0, []), (64, 21, 10, 3, 0, 162, []), (67, 21, 143, 0, 8, 79, []), (70, 1, 0, 1, 0, 0, []), (71, 23, 0, 0, 0, 0, []), (72, 3, 0, 0, 0, 0, []), (73, 21, 10, 3, 0, 162, []), (76, 21, 136, 0, 3, 68, []), (79, 1, 0, 1, 0, 0, []), (80, 23, 0, 0, 0, 0, []), (81, 50, 223, 116, 2, 0, [570, 419, 42, 420]), (84, 32, 0, 0, 0, 0, []), (85, 9, (-1), 0, 0, 0, []), (86, 32, 0, 0, 0, 0, [])]
/-- LeaseQueue.writeIfSafe()V -/
def zo33 : List (Nat × zO) := [(0, 3, 0, 0, 0, 0, []), (1, 21, 46, 3, 8, 170, []), (4, 19, 7, 11, 0, 0, []), (7, 3, 0, 0, 0, 0, []), (8, 51, 155, 34, 0, 0, [203, 205, 0, 29, 206]), (11, 33, 0, 0, 0, 0, [])]
/-- LeaseQueue.writeAll()V -/
def zo34 : List (Nat × zO) := [(0, 3, 0, 0, 0, 0, []), (1, 21, 10, 3, 0, 162, []), (4, 51, 228, 91, 0, 0, [207, 208, 209, 30, 210]), (7, 5, 0, 1, 0, 0, []), (8, 3, 0, 0, 0, 0, []), (9, 21, 91, 3, 9, 171, []), (12, 10, 40, 0, 0, 0, []), (14, 20, 28, 42, 5, 0, []), (17, 3, 0, 0, 0, 0, []), (18, 21, 91, 3, 9, 171, []), (21, 9, 2, 0, 0, 0, []), (22, 1, 0, 1, 0, 0, []), (23, 14, 0, 0, 0, 0, []), (24, 20, 18, 42, 5, 0, []), (27, 3, 0, 0, 0, 0, []), (28, 1, 0, 1, 0, 0, []), (29, 22, 91, 3, 9, 171, []), (32, 3, 0, 0, 0, 0, []), (33, 29, 0, 0, 0, 0, []), (34, 21, 202, 3, 10, 172, []), (37, 9, 1, 0, 0, 0, []), (38, 12, 0, 0, 0, 0, []), (39, 22, 202, 3, 10, 172, []), (42, 3, 0, 0, 0, 0, []), (43, 21, 19, 3, 1, 163, []), (46, 3, 0, 0, 0, 0, []), (47, 21, 10, 3, 0, 162, []), (50, 3, 0, 0, 0, 0, []), (51, 21, 91, 3, 9, 171, []), (54, 51, 232, 96, 2, 0, [211, 212, 213, 31, 214]), (57, 33, 0, 0, 0, 0, [])]
/-- LeaseQueueModel.<init>()V -/
def zo35 : List (Nat × zO) := [(0, 3, 0, 0, 0, 0, []), (1, 70, 1, 0, 0, 0, [583, 49, 50]), (4, 3, 0, 0, 0, 0, []), (5, 11, 5200, 0, 0, 0, []), (8, 72, 0, 0, 0, 0, [110]), (10, 75, 7, 4, 0, 584, []), (13, 3, 0, 0, 0, 0, []), (14, 11, 5200, 0, 0, 0, []), (17, 72, 0, 0, 0, 0, [110]), (19, 75, 13, 4, 2, 586, []), (22, 3, 0, 0, 0, 0, []), (23, 9, 1, 0, 0, 0, []), (24, 75, 16, 4, 9, 593, []), (27, 3, 0, 0, 0, 0, []), (28, 10, 8, 0, 0, 0, []), (30, 72, 0, 0, 0, 0, [110]), (32, 75, 20, 4, 10, 594, []), (35, 3, 0, 0, 0, 0, []), (36, 9, 4, 0, 0, 0, []), (37, 72, 0, 0, 0, 0, [110]), (39, 75, 23, 4, 11, 595, []), (42, 3, 0, 0, 0, 0, []), (43, 9, 4, 0, 0, 0, []), (44, 72, 0, 0, 0, 0, [110]), (46, 75, 26, 4, 12, 596, []), (49, 3, 0, 0, 0, 0, []), (50, 9, 4, 0, 0, 0, []), (51, 72, 0, 0, 0, 0, [110]), (53, 75, 29, 4, 13, 597, []), (56, 3, 0, 0, 0, 0, []), (57, 11, 400, 0, 0, 0, []), (60, 72, 0, 0, 0, 0, [110]), (62, 75, 32, 4, 14, 598, []), (65, 3, 0, 0, 0, 0, []), (66, 9, 4, 0, 0, 0, []), (67, 72, 0, 0, 0, 0, [110]), (69, 75, 35, 4, 15, 599, []), (72, 3, 0, 0, 0, 0, []), (73, 9, 3, 0, 0, 0, []), (74, 72, 0, 0, 0, 0, [110]), (76, 75, 38, 4, 16, 600, []), (79, 9, 0, 0, 0, 0, []), (80, 5, 0, 1, 0, 0, []), (81, 1, 0, 1, 0, 0, []), (82, 10, 8, 0, 0, 0, []), (84, 20, 16, 100, 3, 0, []), (87, 3, 0, 0, 0, 0, []), (88, 21, 20, 4, 10, 594, []), (91, 1, 0, 1, 0, 0, []), (92, 9, 3, 0, 0, 0, []), (93, 24, 0, 0, 0, 0, []), (94, 17, 1, 1, 0, 0, []), (97, 18, (-16), 81, 0, 0, []), (100, 9, 0, 0, 0, 0, []), (101, 5, 0, 1, 0, 0, []), (102, 1, 0, 1, 0, 0, []), (103, 9, 4, 0, 0, 0, []), (104, 20, 16, 120, 3, 0, []), (107, 3, 0, 0, 0, 0, []), (108, 21, 29, 4, 13, 597, []), (111, 1, 0, 1, 0, 0, []), (112, 9, 3, 0, 0, 0, []), (113, 24, 0, 0, 0, 0, []), (114, 17, 1, 1, 0, 0, []), (117, 18, (-15), 102, 0, 0, []), (120, 33, 0, 0, 0, 0, [])]
/-- LeaseQueueModel.thrown()I -/
def zo36 : List (Nat × zO) := [(0, 3, 0, 0, 0, 0, []), (1, 21, 41, 4, 18, 602, []), (4, 32, 0, 0, 0, 0, [])]
/-- LeaseQueueModel.fails(ZI)Z -/
def zo37 : List (Nat × zO) := [(0, 3, 0, 0, 0, 0, []), (1, 1, 0, 1, 0, 0, []), (2, 19, 7, 9, 0, 0, []), (5, 1, 0, 2, 0, 0, []), (6, 18, 4, 10, 0, 0, []), (9, 9, 0, 0, 0, 0, []), (10, 22, 41, 4, 18, 602, []), (13, 1, 0, 1, 0, 0, []), (14, 32, 0, 0, 0, 0, [])]
/-- LeaseQueueModel.within(III)Z -/
def zo38 : List (Nat × zO) := [(0, 1, 0, 0, 0, 0, []), (1, 1, 0, 1, 0, 0, []), (2, 20, 12, 14, 2, 0, []), (5, 1, 0, 0, 0, 0, []), (6, 1, 0, 2, 0, 0, []), (7, 20, 7, 14, 4, 0, []), (10, 9, 1, 0, 0, 0, []), (11, 18, 4, 15, 0, 0, []), (14, 9, 0, 0, 0, 0, []), (15, 32, 0, 0, 0, 0, [])]
/-- LeaseQueueModel.isQueue(I)Z -/
def zo39 : List (Nat × zO) := [(0, 1, 0, 0, 0, 0, []), (1, 9, 0, 0, 0, 0, []), (2, 9, 3, 0, 0, 0, []), (3, 50, 45, 38, 3, 0, [653, 654, 34, 655]), (6, 32, 0, 0, 0, 0, [])]
/-- LeaseQueueModel.isConsumer(I)Z -/
def zo40 : List (Nat × zO) := [(0, 1, 0, 0, 0, 0, []), (1, 9, 0, 0, 0, 0, []), (2, 10, 7, 0, 0, 0, []), (4, 50, 45, 38, 3, 0, [653, 654, 34, 655]), (7, 32, 0, 0, 0, 0, [])]
/-- LeaseQueueModel.isItem(I)Z -/
def zo41 : List (Nat × zO) := [(0, 1, 0, 1, 0, 0, []), (1, 9, 1, 0, 0, 0, []), (2, 3, 0, 0, 0, 0, []), (3, 21, 49, 4, 1, 585, []), (6, 50, 45, 38, 3, 0, [653, 654, 34, 655]), (9, 32, 0, 0, 0, 0, [])]
/-- LeaseQueueModel.get(II)I -/
def zo42 : List (Nat × zO) := [(0, 3, 0, 0, 0, 0, []), (1, 21, 7, 4, 0, 584, []), (4, 10, 13, 0, 0, 0, []), (6, 1, 0, 1, 0, 0, []), (7, 9, 1, 0, 0, 0, []), (8, 13, 0, 0, 0, 0, []), (9, 14, 0, 0, 0, 0, []), (10, 1, 0, 2, 0, 0, []), (11, 12, 0, 0, 0, 0, []), (12, 23, 0, 0, 0, 0, []), (13, 32, 0, 0, 0, 0, [])]
/-- LeaseQueueModel.put(III)V -/
def zo43 : List (Nat × zO) := [(0, 3, 0, 0, 0, 0, []), (1, 21, 7, 4, 0, 584, []), (4, 10, 13, 0, 0, 0, []), (6, 1, 0, 1, 0, 0, []), (7, 9, 1, 0, 0, 0, []), (8, 13, 0, 0, 0, 0, []), (9, 14, 0, 0, 0, 0, []), (10, 1, 0, 2, 0, 0, []), (11, 12, 0, 0, 0, 0, []), (12, 1, 0, 3, 0, 0, []), (13, 24, 0, 0, 0, 0, []), (14, 33, 0, 0, 0, 0, [])]
/-- LeaseQueueModel.missing(I)I -/
def zo44 : List (Nat × zO) := [(0, 9, 0, 0, 0, 0, []), (1, 5, 0, 2, 0, 0, []), (2, 9, 0, 0, 0, 0, []), (3, 5, 0, 3, 0, 0, []), (4, 1, 0, 3, 0, 0, []), (5, 3, 0, 0, 0, 0, []), (6, 1, 0, 1, 0, 0, []), (7, 10, 9, 0, 0, 0, []), (9, 51, 52, 42, 2, 0, [660, 662, 12, 34, 663]), (12, 20, 35, 47, 3, 0, []), (15, 1, 0, 2, 0, 0, []), (16, 3, 0, 0, 0, 0, []), (17, 3, 0, 0, 0, 0, []), (18, 1, 0, 1, 0, 0, []), (19, 10, 10, 0, 0, 0, []), (21, 1, 0, 3, 0, 0, []), (22, 12, 0, 0, 0, 0, []), (23, 51, 52, 42, 2, 0, [660, 662, 12, 34, 663]), (26, 9, 5, 0, 0, 0, []), (27, 51, 52, 42, 2, 0, [660, 662, 12, 34, 663]), (30, 9, 2, 0, 0, 0, []), (31, 20, 7, 38, 1, 0, []), (34, 9, 0, 0, 0, 0, []), (35, 18, 4, 39, 0, 0, []), (38, 9, 1, 0, 0, 0, []), (39, 12, 0, 0, 0, 0, []), (40, 5, 0, 2, 0, 0, []), (41, 17, 1, 3, 0, 0, []), (44, 18, (-40), 4, 0, 0, []), (47, 1, 0, 2, 0, 0, []), (48, 32, 0, 0, 0, 0, [])]
/-- LeaseQueueModel.isReady(I)Z -/
def zo45 : List (Nat × zO) := [(0, 3, 0, 0, 0, 0, []), (1, 1, 0, 1, 0, 0, []), (2, 9, 5, 0, 0, 0, []), (3, 51, 52, 42, 2, 0, [660, 662, 12, 34, 663]), (6, 19, 28, 34, 1, 0, []), (9, 3, 0, 0, 0, 0, []), (10, 1, 0, 1, 0, 0, []), (11, 9, 2, 0, 0, 0, []), (12, 51, 52, 42, 2, 0, [660, 662, 12, 34, 663]), (15, 3, 0, 0, 0, 0, []), (16, 21, 56, 4, 8, 592, []), (19, 20, 15, 34, 4, 0, []), (22, 3, 0, 0, 0, 0, []), (23, 1, 0, 1, 0, 0, []), (24, 51, 59, 44, 1, 0, [715, 717, 23, 34, 718]), (27, 19, 7, 34, 1, 0, []), (30, 9, 1, 0, 0, 0, []), (31, 18, 4, 35, 0, 0, []), (34, 9, 0, 0, 0, 0, []), (35, 32, 0, 0, 0, 0, [])]
/-- LeaseQueueModel.isBefore(II)Z -/
def zo46 : List (Nat × zO) := [(0, 3, 0, 0, 0, 0, []), (1, 1, 0, 1, 0, 0, []), (2, 9, 1, 0, 0, 0, []), (3, 51, 52, 42, 2, 0, [660, 662, 12, 34, 663]), (6, 3, 0, 0, 0, 0, []), (7, 1, 0, 2, 0, 0, []), (8, 9, 1, 0, 0, 0, []), (9, 51, 52, 42, 2, 0, [660, 662, 12, 34, 663]), (12, 20, 24, 36, 0, 0, []), (15, 3, 0, 0, 0, 0, []), (16, 1, 0, 1, 0, 0, []), (17, 9, 1, 0, 0, 0, []), (18, 51, 52, 42, 2, 0, [660, 662, 12, 34, 663]), (21, 3, 0, 0, 0, 0, []), (22, 1, 0, 2, 0, 0, []), (23, 9, 1, 0, 0, 0, []), (24, 51, 52, 42, 2, 0, [660, 662, 12, 34, 663]), (27, 20, 7, 34, 3, 0, []), (30, 9, 1, 0, 0, 0, []), (31, 18, 4, 35, 0, 0, []), (34, 9, 0, 0, 0, 0, []), (35, 32, 0, 0, 0, 0, []), (36, 3, 0, 0, 0, 0, []), (37, 1, 0, 1, 0, 0, []), (38, 9, 2, 0, 0, 0, []), (39, 51, 52, 42, 2, 0, [660, 662, 12, 34, 663]), (42, 3, 0, 0, 0, 0, []), (43, 1, 0, 2, 0, 0, []), (44, 9, 2, 0, 0, 0, []), (45, 51, 52, 42, 2, 0, [660, 662, 12, 34, 663]), (48, 20, 26, 74, 0, 0, []), (51, 3, 0, 0, 0, 0, []), (52, 1, 0, 1, 0, 0, []), (53, 9, 2, 0, 0, 0, []), (54, 51, 52, 42, 2, 0, [660, 662, 12, 34, 663]), (57, 3, 0, 0, 0, 0, []), (58, 1, 0, 2, 0, 0, []), (59, 9, 2, 0, 0, 0, []), (60, 51, 52, 42, 2, 0, [660, 662, 12, 34, 663]), (63, 20, 7, 70, 3, 0, []), (66, 9, 1, 0, 0, 0, []), (67, 18, 17, 84, 0, 0, []), (70, 9, 0, 0, 0, 0, []), (71, 18, 13, 84, 0, 0, []), (74, 1, 0, 1, 0, 0, []), (75, 1, 0, 2, 0, 0, []), (76, 20, 7, 83, 3, 0, []), (79, 9, 1, 0, 0, 0, []), (80, 18, 4, 84, 0, 0, []), (83, 9, 0, 0, 0, 0, []), (84, 32, 0, 0, 0, 0, [])]
/-- LeaseQueueModel.waitOf(I)I -/
def zo47 : List (Nat × zO) := [(0, 3, 0, 0, 0, 0, []), (1, 21, 23, 4, 11, 595, []), (4, 1, 0, 1, 0, 0, []), (5, 23, 0, 0, 0, 0, []), (6, 5, 0, 2, 0, 0, []), (7, 1, 0, 2, 0, 0, []), (8, 19, 13, 21, 0, 0, []), (11, 3, 0, 0, 0, 0, []), (12, 21, 35, 4, 15, 599, []), (15, 1, 0, 1, 0, 0, []), (16, 23, 0, 0, 0, 0, []), (17, 1, 0, 2, 0, 0, []), (18, 20, 5, 23, 3, 0, []), (21, 9, 0, 0, 0, 0, []), (22, 32, 0, 0, 0, 0, []), (23, 3, 0, 0, 0, 0, []), (24, 21, 32, 4, 14, 598, []), (27, 10, 100, 0, 0, 0, []), (29, 1, 0, 1, 0, 0, []), (30, 14, 0, 0, 0, 0, []), (31, 3, 0, 0, 0, 0, []), (32, 21, 35, 4, 15, 599, []), (35, 1, 0, 1, 0, 0, []), (36, 23, 0, 0, 0, 0, []), (37, 1, 0, 2, 0, 0, []), (38, 13, 0, 0, 0, 0, []), (39, 10, 100, 0, 0, 0, []), (41, 15, 0, 0, 0, 0, []), (42, 12, 0, 0, 0, 0, []), (43, 23, 0, 0, 0, 0, []), (44, 5, 0, 3, 0, 0, []), (45, 1, 0, 3, 0, 0, []), (46, 3, 0, 0, 0, 0, []), (47, 21, 56, 4, 8, 592, []), (50, 3, 0, 0, 0, 0, []), (51, 21, 26, 4, 12, 596, []), (54, 1, 0, 1, 0, 0, []), (55, 23, 0, 0, 0, 0, []), (56, 13, 0, 0, 0, 0, []), (57, 20, 19, 76, 5, 0, []), (60, 1, 0, 3, 0, 0, []), (61, 3, 0, 0, 0, 0, []), (62, 21, 26, 4, 12, 596, []), (65, 1, 0, 1, 0, 0, []), (66, 23, 0, 0, 0, 0, []), (67, 12, 0, 0, 0, 0, []), (68, 3, 0, 0, 0, 0, []), (69, 21, 56, 4, 8, 592, []), (72, 13, 0, 0, 0, 0, []), (73, 18, 4, 77, 0, 0, []), (76, 9, 0, 0, 0, 0, []), (77, 32, 0, 0, 0, 0, [])]
/-- LeaseQueueModel.held(I)I -/
def zo48 : List (Nat × zO) := [(0, 9, 0, 0, 0, 0, []), (1, 5, 0, 2, 0, 0, []), (2, 9, 1, 0, 0, 0, []), (3, 5, 0, 3, 0, 0, []), (4, 1, 0, 3, 0, 0, []), (5, 3, 0, 0, 0, 0, []), (6, 21, 49, 4, 1, 585, []), (9, 20, 38, 47, 4, 0, []), (12, 1, 0, 2, 0, 0, []), (13, 3, 0, 0, 0, 0, []), (14, 1, 0, 3, 0, 0, []), (15, 9, 5, 0, 0, 0, []), (16, 51, 52, 42, 2, 0, [660, 662, 12, 34, 663]), (19, 9, 1, 0, 0, 0, []), (20, 20, 18, 38, 1, 0, []), (23, 3, 0, 0, 0, 0, []), (24, 1, 0, 3, 0, 0, []), (25, 10, 6, 0, 0, 0, []), (27, 51, 52, 42, 2, 0, [660, 662, 12, 34, 663]), (30, 1, 0, 1, 0, 0, []), (31, 20, 7, 38, 1, 0, []), (34, 9, 1, 0, 0, 0, []), (35, 18, 4, 39, 0, 0, []), (38, 9, 0, 0, 0, 0, []), (39, 12, 0, 0, 0, 0, []), (40, 5, 0, 2, 0, 0, []), (41, 17, 1, 3, 0, 0, []), (44, 18, (-40), 4, 0, 0, []), (47, 1, 0, 2, 0, 0, []), (48, 32, 0, 0, 0, 0, [])]
/-- LeaseQueueModel.notDone()I -/
def zo49 : List (Nat × zO) := [(0, 9, 0, 0, 0, 0, []), (1, 5, 0, 1, 0, 0, []), (2, 9, 1, 0, 0, 0, []), (3, 5, 0, 2, 0, 0, []), (4, 1, 0, 2, 0, 0, []), (5, 3, 0, 0, 0, 0, []), (6, 21, 49, 4, 1, 585, []), (9, 20, 27, 36, 4, 0, []), (12, 1, 0, 1, 0, 0, []), (13, 3, 0, 0, 0, 0, []), (14, 1, 0, 2, 0, 0, []), (15, 9, 5, 0, 0, 0, []), (16, 51, 52, 42, 2, 0, [660, 662, 12, 34, 663]), (19, 9, 2, 0, 0, 0, []), (20, 20, 7, 27, 1, 0, []), (23, 9, 0, 0, 0, 0, []), (24, 18, 4, 28, 0, 0, []), (27, 9, 1, 0, 0, 0, []), (28, 12, 0, 0, 0, 0, []), (29, 5, 0, 1, 0, 0, []), (30, 17, 1, 2, 0, 0, []), (33, 18, (-29), 4, 0, 0, []), (36, 1, 0, 1, 0, 0, []), (37, 32, 0, 0, 0, 0, [])]
/-- LeaseQueueModel.save()V -/
def zo50 : List (Nat × zO) := [(0, 3, 0, 0, 0, 0, []), (1, 51, 63, 49, 0, 0, [672, 674, 15, 34, 675]), (4, 5, 0, 1, 0, 0, []), (5, 3, 0, 0, 0, 0, []), (6, 21, 67, 4, 4, 588, []), (9, 10, 40, 0, 0, 0, []), (11, 20, 28, 39, 5, 0, []), (14, 3, 0, 0, 0, 0, []), (15, 21, 67, 4, 4, 588, []), (18, 9, 2, 0, 0, 0, []), (19, 1, 0, 1, 0, 0, []), (20, 14, 0, 0, 0, 0, []), (21, 20, 18, 39, 5, 0, []), (24, 3, 0, 0, 0, 0, []), (25, 1, 0, 1, 0, 0, []), (26, 22, 67, 4, 4, 588, []), (29, 3, 0, 0, 0, 0, []), (30, 29, 0, 0, 0, 0, []), (31, 21, 70, 4, 6, 590, []), (34, 9, 1, 0, 0, 0, []), (35, 12, 0, 0, 0, 0, []), (36, 22, 70, 4, 6, 590, []), (39, 9, 0, 0, 0, 0, []), (40, 5, 0, 2, 0, 0, []), (41, 60, 49, 2, 2, 0, [1, 13, 7, 585, 586, 584]), (70, 3, 0, 0, 0, 0, []), (71, 3, 0, 0, 0, 0, []), (72, 21, 49, 4, 1, 585, []), (75, 22, 73, 4, 3, 587, []), (78, 3, 0, 0, 0, 0, []), (79, 3, 0, 0, 0, 0, []), (80, 21, 67, 4, 4, 588, []), (83, 22, 76, 4, 5, 589, []), (86, 33, 0, 0, 0, 0, [])]
/-- LeaseQueueModel.saveIfSafe()V -/
def zo51 : List (Nat × zO) := [(0, 3, 0, 0, 0, 0, []), (1, 21, 16, 4, 9, 593, []), (4, 19, 7, 11, 0, 0, []), (7, 3, 0, 0, 0, 0, []), (8, 51, 79, 50, 0, 0, [668, 670, 14, 34, 671]), (11, 33, 0, 0, 0, 0, [])]
/-- LeaseQueueModel.push(IIIII)I -/
def zo52 : List (Nat × zO) := [(0, 1, 0, 1, 0, 0, []), (1, 50, 82, 39, 1, 0, [650, 651, 34, 652]), (4, 19, 33, 37, 0, 0, []), (7, 1, 0, 2, 0, 0, []), (8, 9, 0, 0, 0, 0, []), (9, 10, 9, 0, 0, 0, []), (11, 50, 45, 38, 3, 0, [653, 654, 34, 655]), (14, 19, 23, 37, 0, 0, []), (17, 1, 0, 3, 0, 0, []), (18, 9, 0, 0, 0, 0, []), (19, 11, 1000, 0, 0, 0, []), (22, 50, 45, 38, 3, 0, [653, 654, 34, 655]), (25, 19, 12, 37, 0, 0, []), (28, 2, 0, 5, 0, 0, []), (30, 19, 7, 37, 2, 0, []), (33, 9, 1, 0, 0, 0, []), (34, 18, 4, 38, 0, 0, []), (37, 9, 0, 0, 0, 0, []), (38, 6, 0, 6, 0, 0, []), (40, 3, 0, 0, 0, 0, []), (41, 2, 0, 6, 0, 0, []), (43, 19, 7, 50, 1, 0, []), (46, 9, 1, 0, 0, 0, []), (47, 18, 4, 51, 0, 0, []), (50, 9, 0, 0, 0, 0, []), (51, 9, 1, 0, 0, 0, []), (52, 51, 86, 37, 2, 0, [656, 658, 11, 34, 659]), (55, 19, 5, 60, 0, 0, []), (58, 9, 0, 0, 0, 0, []), (59, 32, 0, 0, 0, 0, []), (60, 9, 1, 0, 0, 0, []), (61, 6, 0, 7, 0, 0, []), (63, 2, 0, 7, 0, 0, []), (65, 3, 0, 0, 0, 0, []), (66, 21, 49, 4, 1, 585, []), (69, 20, 55, 124, 4, 0, []), (72, 2, 0, 5, 0, 0, []), (74, 19, 50, 124, 5, 0, []), (77, 3, 0, 0, 0, 0, []), (78, 2, 0, 7, 0, 0, []), (80, 9, 0, 0, 0, 0, []), (81, 51, 52, 42, 2, 0, [660, 662, 12, 34, 663]), (84, 1, 0, 1, 0, 0, []), (85, 20, 33, 118, 1, 0, []), (88, 3, 0, 0, 0, 0, []), (89, 2, 0, 7, 0, 0, []), (91, 9, 4, 0, 0, 0, []), (92, 51, 52, 42, 2, 0, [660, 662, 12, 34, 663]), (95, 2, 0, 5, 0, 0, []), (97, 20, 21, 118, 1, 0, []), (100, 3, 0, 0, 0, 0, []), (101, 2, 0, 7, 0, 0, []), (103, 9, 5, 0, 0, 0, []), (104, 51, 52, 42, 2, 0, [660, 662, 12, 34, 663]), (107, 9, 2, 0, 0, 0, []), (108, 20, 10, 118, 0, 0, []), (111, 3, 0, 0, 0, 0, []), (112, 51, 90, 51, 0, 0, [664, 666, 13, 34, 667]), (115, 2, 0, 7, 0, 0, []), (117, 32, 0, 0, 0, 0, []), (118, 17, 1, 7, 0, 0, []), (121, 18, (-58), 63, 0, 0, []), (124, 3, 0, 0, 0, 0, []), (125, 3, 0, 0, 0, 0, []), (126, 21, 49, 4, 1, 585, []), (129, 11, 400, 0, 0, 0, []), (132, 20, 7, 139, 1, 0, []), (135, 9, 1, 0, 0, 0, []), (136, 18, 4, 140, 0, 0, []), (139, 9, 0, 0, 0, 0, []), (140, 9, 2, 0, 0, 0, []), (141, 51, 86, 37, 2, 0, [656, 658, 11, 34, 659]), (144, 19, 5, 149, 0, 0, []), (147, 9, 0, 0, 0, 0, []), (148, 32, 0, 0, 0, 0, []), (149, 3, 0, 0, 0, 0, []), (150, 29, 0, 0, 0, 0, []), (151, 21, 49, 4, 1, 585, []), (154, 9, 1, 0, 0, 0, []), (155, 12, 0, 0, 0, 0, []), (156, 22, 49, 4, 1, 585, []), (159, 3, 0, 0, 0, 0, []), (160, 3, 0, 0, 0, 0, []), (161, 21, 49, 4, 1, 585, []), (164, 9, 0, 0, 0, 0, []), (165, 1, 0, 1, 0, 0, []), (166, 51, 93, 43, 3, 0, [676, 678, 16, 34, 679]), (169, 3, 0, 0, 0, 0, []), (170, 3, 0, 0, 0, 0, []), (171, 21, 49, 4, 1, 585, []), (174, 9, 1, 0, 0, 0, []), (175, 1, 0, 2, 0, 0, []), (176, 51, 93, 43, 3, 0, [676, 678, 16, 34, 679]), (179, 3, 0, 0, 0, 0, []), (180, 3, 0, 0, 0, 0, []), (181, 21, 49, 4, 1, 585, []), (184, 9, 2, 0, 0, 0, []), (185, 3, 0, 0, 0, 0, []), (186, 21, 56, 4, 8, 592, []), (189, 1, 0, 3, 0, 0, []), (190, 12, 0, 0, 0, 0, []), (191, 51, 93, 43, 3, 0, [676, 678, 16, 34, 679]), (194, 3, 0, 0, 0, 0, []), (195, 3, 0, 0, 0, 0, []), (196, 21, 49, 4, 1, 585, []), (199, 9, 3, 0, 0, 0, []), (200, 2, 0, 4, 0, 0, []), (202, 51, 93, 43, 3, 0, [676, 678, 16, 34, 679]), (205, 3, 0, 0, 0, 0, []), (206, 3, 0, 0, 0, 0, []), (207, 21, 49, 4, 1, 585, []), (210, 9, 4, 0, 0, 0, []), (211, 2, 0, 5, 0, 0, []), (213, 51, 93, 43, 3, 0, [676, 678, 16, 34, 679]), (216, 3, 0, 0, 0, 0, []), (217, 3, 0, 0, 0, 0, []), (218, 21, 49, 4, 1, 585, []), (221, 9, 5, 0, 0, 0, []), (222, 9, 0, 0, 0, 0, []), (223, 51, 93, 43, 3, 0, [676, 678, 16, 34, 679]), (226, 3, 0, 0, 0, 0, []), (227, 3, 0, 0, 0, 0, []), (228, 21, 49, 4, 1, 585, []), (231, 10, 6, 0, 0, 0, []), (233, 9, (-1), 0, 0, 0, []), (234, 51, 93, 43, 3, 0, [676, 678, 16, 34, 679]), (237, 3, 0, 0, 0, 0, []), (238, 3, 0, 0, 0, 0, []), (239, 21, 49, 4, 1, 585, []), (242, 10, 7, 0, 0, 0, []), (244, 9, (-1), 0, 0, 0, []), (245, 51, 93, 43, 3, 0, [676, 678, 16, 34, 679]), (248, 3, 0, 0, 0, 0, []), (249, 3, 0, 0, 0, 0, []), (250, 21, 49, 4, 1, 585, []), (253, 10, 8, 0, 0, 0, []), (255, 9, 0, 0, 0, 0, []), (256, 51, 93, 43, 3, 0, [676, 678, 16, 34, 679]), (259, 3, 0, 0, 0, 0, []), (260, 3, 0, 0, 0, 0, []), (261, 21, 49, 4, 1, 585, []), (264, 10, 9, 0, 0, 0, []), (266, 3, 0, 0, 0, 0, []), (267, 21, 97, 4, 17, 601, []), (270, 51, 93, 43, 3, 0, [676, 678, 16, 34, 679]), (273, 9, 0, 0, 0, 0, []), (274, 6, 0, 7, 0, 0, []), (276, 2, 0, 7, 0, 0, []), (278, 3, 0, 0, 0, 0, []), (279, 21, 97, 4, 17, 601, []), (282, 20, 29, 311, 3, 0, []), (285, 3, 0, 0, 0, 0, []), (286, 3, 0, 0, 0, 0, []), (287, 21, 49, 4, 1, 585, []), (290, 10, 10, 0, 0, 0, []), (292, 2, 0, 7, 0, 0, []), (294, 12, 0, 0, 0, 0, []), (295, 3, 0, 0, 0, 0, []), (296, 21, 38, 4, 16, 600, []), (299, 2, 0, 7, 0, 0, []), (301, 23, 0, 0, 0, 0, []), (302, 51, 93, 43, 3, 0, [676, 678, 16, 34, 679]), (305, 17, 1, 7, 0, 0, []), (308, 18, (-32), 276, 0, 0, []), (311, 3, 0, 0, 0, 0, []), (312, 9, 0, 0, 0, 0, []), (313, 22, 97, 4, 17, 601, []), (316, 3, 0, 0, 0, 0, []), (317, 29, 0, 0, 0, 0, []), (318, 21, 67, 4, 4, 588, []), (321, 9, 1, 0, 0, 0, []), (322, 12, 0, 0, 0, 0, []), (323, 22, 67, 4, 4, 588, []), (326, 3, 0, 0, 0, 0, []), (327, 51, 90, 51, 0, 0, [664, 666, 13, 34, 667]), (330, 3, 0, 0, 0, 0, []), (331, 21, 49, 4, 1, 585, []), (334, 32, 0, 0, 0, 0, [])]
/-- LeaseQueueModel.await(I)I -/
def zo53 : List (Nat × zO) := [(0, 3, 0, 0, 0, 0, []), (1, 3, 0, 0, 0, 0, []), (2, 1, 0, 1, 0, 0, []), (3, 51, 100, 41, 1, 0, [684, 686, 17, 34, 687]), (6, 19, 7, 13, 1, 0, []), (9, 9, 1, 0, 0, 0, []), (10, 18, 4, 14, 0, 0, []), (13, 9, 0, 0, 0, 0, []), (14, 9, 1, 0, 0, 0, []), (15, 51, 86, 37, 2, 0, [656, 658, 11, 34, 659]), (18, 19, 5, 23, 0, 0, []), (21, 9, 0, 0, 0, 0, []), (22, 32, 0, 0, 0, 0, []), (23, 9, 0, 0, 0, 0, []), (24, 5, 0, 2, 0, 0, []), (25, 1, 0, 2, 0, 0, []), (26, 3, 0, 0, 0, 0, []), (27, 21, 97, 4, 17, 601, []), (30, 20, 24, 54, 3, 0, []), (33, 3, 0, 0, 0, 0, []), (34, 21, 38, 4, 16, 600, []), (37, 1, 0, 2, 0, 0, []), (38, 23, 0, 0, 0, 0, []), (39, 1, 0, 1, 0, 0, []), (40, 20, 8, 48, 1, 0, []), (43, 3, 0, 0, 0, 0, []), (44, 21, 97, 4, 17, 601, []), (47, 32, 0, 0, 0, 0, []), (48, 17, 1, 2, 0, 0, []), (51, 18, (-26), 25, 0, 0, []), (54, 3, 0, 0, 0, 0, []), (55, 3, 0, 0, 0, 0, []), (56, 21, 97, 4, 17, 601, []), (59, 9, 3, 0, 0, 0, []), (60, 20, 7, 67, 1, 0, []), (63, 9, 1, 0, 0, 0, []), (64, 18, 4, 68, 0, 0, []), (67, 9, 0, 0, 0, 0, []), (68, 9, 2, 0, 0, 0, []), (69, 51, 86, 37, 2, 0, [656, 658, 11, 34, 659]), (72, 19, 5, 77, 0, 0, []), (75, 9, 0, 0, 0, 0, []), (76, 32, 0, 0, 0, 0, []), (77, 3, 0, 0, 0, 0, []), (78, 21, 38, 4, 16, 600, []), (81, 3, 0, 0, 0, 0, []), (82, 21, 97, 4, 17, 601, []), (85, 1, 0, 1, 0, 0, []), (86, 24, 0, 0, 0, 0, []), (87, 3, 0, 0, 0, 0, []), (88, 29, 0, 0, 0, 0, []), (89, 21, 97, 4, 17, 601, []), (92, 9, 1, 0, 0, 0, []), (93, 12, 0, 0, 0, 0, []), (94, 22, 97, 4, 17, 601, []), (97, 3, 0, 0, 0, 0, []), (98, 21, 97, 4, 17, 601, []), (101, 32, 0, 0, 0, 0, [])]
/-- LeaseQueueModel.first(I)I -/
def zo54 : List (Nat × zO) := [(0, 9, 0, 0, 0, 0, []), (1, 5, 0, 2, 0, 0, []), (2, 9, 1, 0, 0, 0, []), (3, 5, 0, 3, 0, 0, []), (4, 1, 0, 3, 0, 0, []), (5, 3, 0, 0, 0, 0, []), (6, 21, 49, 4, 1, 585, []), (9, 20, 62, 71, 4, 0, []), (12, 3, 0, 0, 0, 0, []), (13, 1, 0, 3, 0, 0, []), (14, 9, 0, 0, 0, 0, []), (15, 51, 52, 42, 2, 0, [660, 662, 12, 34, 663]), (18, 6, 0, 4, 0, 0, []), (20, 1, 0, 1, 0, 0, []), (21, 19, 9, 30, 2, 0, []), (24, 2, 0, 4, 0, 0, []), (26, 1, 0, 1, 0, 0, []), (27, 20, 38, 65, 1, 0, []), (30, 3, 0, 0, 0, 0, []), (31, 2, 0, 4, 0, 0, []), (33, 51, 103, 47, 1, 0, [707, 709, 21, 34, 710]), (36, 19, 29, 65, 4, 0, []), (39, 3, 0, 0, 0, 0, []), (40, 1, 0, 3, 0, 0, []), (41, 51, 106, 45, 1, 0, [711, 713, 22, 34, 714]), (44, 19, 6, 50, 1, 0, []), (47, 18, 18, 65, 0, 0, []), (50, 1, 0, 2, 0, 0, []), (51, 19, 12, 63, 0, 0, []), (54, 3, 0, 0, 0, 0, []), (55, 1, 0, 3, 0, 0, []), (56, 1, 0, 2, 0, 0, []), (57, 51, 109, 46, 2, 0, [719, 721, 24, 34, 722]), (60, 19, 5, 65, 0, 0, []), (63, 1, 0, 3, 0, 0, []), (64, 5, 0, 2, 0, 0, []), (65, 17, 1, 3, 0, 0, []), (68, 18, (-64), 4, 0, 0, []), (71, 1, 0, 2, 0, 0, []), (72, 32, 0, 0, 0, 0, [])]
/-- LeaseQueueModel.lease(III)I -/
def zo55 : List (Nat × zO) := [(0, 3, 0, 0, 0, 0, []), (1, 1, 0, 2, 0, 0, []), (2, 51, 113, 48, 1, 0, [699, 701, 19, 34, 702]), (5, 3, 0, 0, 0, 0, []), (6, 21, 20, 4, 10, 594, []), (9, 1, 0, 2, 0, 0, []), (10, 23, 0, 0, 0, 0, []), (11, 20, 11, 22, 3, 0, []), (14, 3, 0, 0, 0, 0, []), (15, 1, 0, 1, 0, 0, []), (16, 51, 116, 54, 1, 0, [703, 705, 20, 34, 706]), (19, 18, 4, 23, 0, 0, []), (22, 9, 0, 0, 0, 0, []), (23, 6, 0, 4, 0, 0, []), (25, 2, 0, 4, 0, 0, []), (27, 19, 5, 32, 1, 0, []), (30, 9, (-1), 0, 0, 0, []), (31, 32, 0, 0, 0, 0, []), (32, 3, 0, 0, 0, 0, []), (33, 2, 0, 4, 0, 0, []), (35, 9, 0, 0, 0, 0, []), (36, 51, 52, 42, 2, 0, [660, 662, 12, 34, 663]), (39, 6, 0, 5, 0, 0, []), (41, 3, 0, 0, 0, 0, []), (42, 2, 0, 4, 0, 0, []), (44, 9, 5, 0, 0, 0, []), (45, 9, 1, 0, 0, 0, []), (46, 51, 93, 43, 3, 0, [676, 678, 16, 34, 679]), (49, 3, 0, 0, 0, 0, []), (50, 2, 0, 4, 0, 0, []), (52, 10, 6, 0, 0, 0, []), (54, 1, 0, 2, 0, 0, []), (55, 51, 93, 43, 3, 0, [676, 678, 16, 34, 679]), (58, 3, 0, 0, 0, 0, []), (59, 2, 0, 4, 0, 0, []), (61, 10, 7, 0, 0, 0, []), (63, 3, 0, 0, 0, 0, []), (64, 21, 56, 4, 8, 592, []), (67, 1, 0, 3, 0, 0, []), (68, 12, 0, 0, 0, 0, []), (69, 51, 93, 43, 3, 0, [676, 678, 16, 34, 679]), (72, 3, 0, 0, 0, 0, []), (73, 2, 0, 4, 0, 0, []), (75, 10, 8, 0, 0, 0, []), (77, 3, 0, 0, 0, 0, []), (78, 2, 0, 4, 0, 0, []), (80, 10, 8, 0, 0, 0, []), (82, 51, 52, 42, 2, 0, [660, 662, 12, 34, 663]), (85, 9, 1, 0, 0, 0, []), (86, 12, 0, 0, 0, 0, []), (87, 51, 93, 43, 3, 0, [676, 678, 16, 34, 679]), (90, 3, 0, 0, 0, 0, []), (91, 21, 32, 4, 14, 598, []), (94, 10, 100, 0, 0, 0, []), (96, 2, 0, 5, 0, 0, []), (98, 14, 0, 0, 0, 0, []), (99, 3, 0, 0, 0, 0, []), (100, 21, 35, 4, 15, 599, []), (103, 2, 0, 5, 0, 0, []), (105, 23, 0, 0, 0, 0, []), (106, 10, 100, 0, 0, 0, []), (108, 15, 0, 0, 0, 0, []), (109, 12, 0, 0, 0, 0, []), (110, 3, 0, 0, 0, 0, []), (111, 21, 56, 4, 8, 592, []), (114, 24, 0, 0, 0, 0, []), (115, 3, 0, 0, 0, 0, []), (116, 21, 35, 4, 15, 599, []), (119, 2, 0, 5, 0, 0, []), (121, 30, 0, 0, 0, 0, []), (122, 23, 0, 0, 0, 0, []), (123, 9, 1, 0, 0, 0, []), (124, 12, 0, 0, 0, 0, []), (125, 24, 0, 0, 0, 0, []), (126, 3, 0, 0, 0, 0, []), (127, 29, 0, 0, 0, 0, []), (128, 21, 67, 4, 4, 588, []), (131, 9, 1, 0, 0, 0, []), (132, 12, 0, 0, 0, 0, []), (133, 22, 67, 4, 4, 588, []), (136, 2, 0, 4, 0, 0, []), (138, 32, 0, 0, 0, 0, [])]
/-- LeaseQueueModel.take(III)I -/
def zo56 : List (Nat × zO) := [(0, 3, 0, 0, 0, 0, []), (1, 1, 0, 1, 0, 0, []), (2, 50, 82, 39, 1, 0, [650, 651, 34, 652]), (5, 19, 21, 26, 0, 0, []), (8, 1, 0, 2, 0, 0, []), (9, 50, 119, 40, 1, 0, [692, 693, 34, 694]), (12, 19, 14, 26, 0, 0, []), (15, 1, 0, 3, 0, 0, []), (16, 9, 1, 0, 0, 0, []), (17, 11, 1000, 0, 0, 0, []), (20, 50, 45, 38, 3, 0, [653, 654, 34, 655]), (23, 19, 7, 30, 1, 0, []), (26, 9, 1, 0, 0, 0, []), (27, 18, 4, 31, 0, 0, []), (30, 9, 0, 0, 0, 0, []), (31, 9, 1, 0, 0, 0, []), (32, 51, 86, 37, 2, 0, [656, 658, 11, 34, 659]), (35, 19, 5, 40, 0, 0, []), (38, 9, 0, 0, 0, 0, []), (39, 32, 0, 0, 0, 0, []), (40, 3, 0, 0, 0, 0, []), (41, 1, 0, 1, 0, 0, []), (42, 1, 0, 2, 0, 0, []), (43, 1, 0, 3, 0, 0, []), (44, 51, 122, 55, 3, 0, [695, 697, 18, 34, 698]), (47, 32, 0, 0, 0, 0, [])]
/-- LeaseQueueModel.takeAny(II)I -/
def zo57 : List (Nat × zO) := [(0, 3, 0, 0, 0, 0, []), (1, 1, 0, 1, 0, 0, []), (2, 50, 119, 40, 1, 0, [692, 693, 34, 694]), (5, 19, 14, 19, 0, 0, []), (8, 1, 0, 2, 0, 0, []), (9, 9, 1, 0, 0, 0, []), (10, 11, 1000, 0, 0, 0, []), (13, 50, 45, 38, 3, 0, [653, 654, 34, 655]), (16, 19, 7, 23, 1, 0, []), (19, 9, 1, 0, 0, 0, []), (20, 18, 4, 24, 0, 0, []), (23, 9, 0, 0, 0, 0, []), (24, 9, 1, 0, 0, 0, []), (25, 51, 86, 37, 2, 0, [656, 658, 11, 34, 659]), (28, 19, 5, 33, 0, 0, []), (31, 9, 0, 0, 0, 0, []), (32, 32, 0, 0, 0, 0, []), (33, 3, 0, 0, 0, 0, []), (34, 9, (-1), 0, 0, 0, []), (35, 1, 0, 1, 0, 0, []), (36, 1, 0, 2, 0, 0, []), (37, 51, 122, 55, 3, 0, [695, 697, 18, 34, 698]), (40, 32, 0, 0, 0, 0, [])]
/-- LeaseQueueModel.has(II)Z -/
def zo58 : List (Nat × zO) := [(0, 3, 0, 0, 0, 0, []), (1, 1, 0, 2, 0, 0, []), (2, 9, 5, 0, 0, 0, []), (3, 51, 52, 42, 2, 0, [660, 662, 12, 34, 663]), (6, 9, 1, 0, 0, 0, []), (7, 20, 18, 25, 1, 0, []), (10, 3, 0, 0, 0, 0, []), (11, 1, 0, 2, 0, 0, []), (12, 10, 6, 0, 0, 0, []), (14, 51, 52, 42, 2, 0, [660, 662, 12, 34, 663]), (17, 1, 0, 1, 0, 0, []), (18, 20, 7, 25, 1, 0, []), (21, 9, 1, 0, 0, 0, []), (22, 18, 4, 26, 0, 0, []), (25, 9, 0, 0, 0, 0, []), (26, 32, 0, 0, 0, 0, [])]
/-- LeaseQueueModel.free(II)V -/
def zo59 : List (Nat × zO) := [(0, 3, 0, 0, 0, 0, []), (1, 1, 0, 1, 0, 0, []), (2, 9, 5, 0, 0, 0, []), (3, 1, 0, 2, 0, 0, []), (4, 51, 93, 43, 3, 0, [676, 678, 16, 34, 679]), (7, 3, 0, 0, 0, 0, []), (8, 1, 0, 1, 0, 0, []), (9, 10, 6, 0, 0, 0, []), (11, 9, (-1), 0, 0, 0, []), (12, 51, 93, 43, 3, 0, [676, 678, 16, 34, 679]), (15, 3, 0, 0, 0, 0, []), (16, 1, 0, 1, 0, 0, []), (17, 10, 7, 0, 0, 0, []), (19, 9, (-1), 0, 0, 0, []), (20, 51, 93, 43, 3, 0, [676, 678, 16, 34, 679]), (23, 33, 0, 0, 0, 0, [])]
/-- LeaseQueueModel.isSpent(I)Z -/
def zo60 : List (Nat × zO) := [(0, 3, 0, 0, 0, 0, []), (1, 1, 0, 1, 0, 0, []), (2, 10, 8, 0, 0, 0, []), (4, 51, 52, 42, 2, 0, [660, 662, 12, 34, 663]), (7, 3, 0, 0, 0, 0, []), (8, 21, 29, 4, 13, 597, []), (11, 3, 0, 0, 0, 0, []), (12, 1, 0, 1, 0, 0, []), (13, 9, 0, 0, 0, 0, []), (14, 51, 52, 42, 2, 0, [660, 662, 12, 34, 663]), (17, 23, 0, 0, 0, 0, []), (18, 20, 7, 25, 2, 0, []), (21, 9, 1, 0, 0, 0, []), (22, 18, 4, 26, 0, 0, []), (25, 9, 0, 0, 0, 0, []), (26, 32, 0, 0, 0, 0, [])]
/-- LeaseQueueModel.done(II)Z -/
def zo61 : List (Nat × zO) := [(0, 3, 0, 0, 0, 0, []), (1, 1, 0, 1, 0, 0, []), (2, 50, 119, 40, 1, 0, [692, 693, 34, 694]), (5, 19, 11, 16, 0, 0, []), (8, 3, 0, 0, 0, 0, []), (9, 1, 0, 2, 0, 0, []), (10, 51, 100, 41, 1, 0, [684, 686, 17, 34, 687]), (13, 19, 7, 20, 1, 0, []), (16, 9, 1, 0, 0, 0, []), (17, 18, 4, 21, 0, 0, []), (20, 9, 0, 0, 0, 0, []), (21, 9, 1, 0, 0, 0, []), (22, 51, 86, 37, 2, 0, [656, 658, 11, 34, 659]), (25, 19, 5, 30, 0, 0, []), (28, 9, 0, 0, 0, 0, []), (29, 32, 0, 0, 0, 0, []), (30, 3, 0, 0, 0, 0, []), (31, 1, 0, 1, 0, 0, []), (32, 1, 0, 2, 0, 0, []), (33, 51, 126, 58, 2, 0, [731, 733, 25, 34, 734]), (36, 5, 0, 3, 0, 0, []), (37, 1, 0, 3, 0, 0, []), (38, 19, 19, 57, 0, 0, []), (41, 3, 0, 0, 0, 0, []), (42, 1, 0, 2, 0, 0, []), (43, 9, 2, 0, 0, 0, []), (44, 51, 129, 59, 2, 0, [735, 737, 26, 34, 738]), (47, 3, 0, 0, 0, 0, []), (48, 29, 0, 0, 0, 0, []), (49, 21, 67, 4, 4, 588, []), (52, 9, 1, 0, 0, 0, []), (53, 12, 0, 0, 0, 0, []), (54, 22, 67, 4, 4, 588, []), (57, 3, 0, 0, 0, 0, []), (58, 51, 90, 51, 0, 0, [664, 666, 13, 34, 667]), (61, 1, 0, 3, 0, 0, []), (62, 32, 0, 0, 0, 0, [])]
/-- LeaseQueueModel.fail(III)Z -/
def zo62 : List (Nat × zO) := [(0, 3, 0, 0, 0, 0, []), (1, 1, 0, 1, 0, 0, []), (2, 50, 119, 40, 1, 0, [692, 693, 34, 694]), (5, 19, 22, 27, 0, 0, []), (8, 3, 0, 0, 0, 0, []), (9, 1, 0, 2, 0, 0, []), (10, 51, 100, 41, 1, 0, [684, 686, 17, 34, 687]), (13, 19, 14, 27, 0, 0, []), (16, 1, 0, 3, 0, 0, []), (17, 9, 0, 0, 0, 0, []), (18, 11, 1000, 0, 0, 0, []), (21, 50, 45, 38, 3, 0, [653, 654, 34, 655]), (24, 19, 7, 31, 1, 0, []), (27, 9, 1, 0, 0, 0, []), (28, 18, 4, 32, 0, 0, []), (31, 9, 0, 0, 0, 0, []), (32, 9, 1, 0, 0, 0, []), (33, 51, 86, 37, 2, 0, [656, 658, 11, 34, 659]), (36, 19, 5, 41, 0, 0, []), (39, 9, 0, 0, 0, 0, []), (40, 32, 0, 0, 0, 0, []), (41, 3, 0, 0, 0, 0, []), (42, 1, 0, 1, 0, 0, []), (43, 1, 0, 2, 0, 0, []), (44, 51, 126, 58, 2, 0, [731, 733, 25, 34, 734]), (47, 6, 0, 4, 0, 0, []), (49, 2, 0, 4, 0, 0, []), (51, 19, 52, 103, 0, 0, []), (54, 3, 0, 0, 0, 0, []), (55, 1, 0, 2, 0, 0, []), (56, 51, 133, 60, 1, 0, [743, 745, 27, 34, 746]), (59, 6, 0, 5, 0, 0, []), (61, 3, 0, 0, 0, 0, []), (62, 1, 0, 2, 0, 0, []), (63, 2, 0, 5, 0, 0, []), (65, 19, 7, 72, 0, 0, []), (68, 9, 3, 0, 0, 0, []), (69, 18, 4, 73, 0, 0, []), (72, 9, 0, 0, 0, 0, []), (73, 51, 129, 59, 2, 0, [735, 737, 26, 34, 738]), (76, 2, 0, 5, 0, 0, []), (78, 19, 15, 93, 1, 0, []), (81, 3, 0, 0, 0, 0, []), (82, 1, 0, 2, 0, 0, []), (83, 9, 2, 0, 0, 0, []), (84, 3, 0, 0, 0, 0, []), (85, 21, 56, 4, 8, 592, []), (88, 1, 0, 3, 0, 0, []), (89, 12, 0, 0, 0, 0, []), (90, 51, 93, 43, 3, 0, [676, 678, 16, 34, 679]), (93, 3, 0, 0, 0, 0, []), (94, 29, 0, 0, 0, 0, []), (95, 21, 67, 4, 4, 588, []), (98, 9, 1, 0, 0, 0, []), (99, 12, 0, 0, 0, 0, []), (100, 22, 67, 4, 4, 588, []), (103, 3, 0, 0, 0, 0, []), (104, 51, 90, 51, 0, 0, [664, 666, 13, 34, 667]), (107, 2, 0, 4, 0, 0, []), (109, 32, 0, 0, 0, 0, [])]
/-- LeaseQueueModel.extend(III)Z -/
def zo63 : List (Nat × zO) := [(0, 3, 0, 0, 0, 0, []), (1, 1, 0, 1, 0, 0, []), (2, 50, 119, 40, 1, 0, [692, 693, 34, 694]), (5, 19, 22, 27, 0, 0, []), (8, 3, 0, 0, 0, 0, []), (9, 1, 0, 2, 0, 0, []), (10, 51, 100, 41, 1, 0, [684, 686, 17, 34, 687]), (13, 19, 14, 27, 0, 0, []), (16, 1, 0, 3, 0, 0, []), (17, 9, 1, 0, 0, 0, []), (18, 11, 1000, 0, 0, 0, []), (21, 50, 45, 38, 3, 0, [653, 654, 34, 655]), (24, 19, 7, 31, 1, 0, []), (27, 9, 1, 0, 0, 0, []), (28, 18, 4, 32, 0, 0, []), (31, 9, 0, 0, 0, 0, []), (32, 9, 1, 0, 0, 0, []), (33, 51, 86, 37, 2, 0, [656, 658, 11, 34, 659]), (36, 19, 5, 41, 0, 0, []), (39, 9, 0, 0, 0, 0, []), (40, 32, 0, 0, 0, 0, []), (41, 3, 0, 0, 0, 0, []), (42, 1, 0, 1, 0, 0, []), (43, 1, 0, 2, 0, 0, []), (44, 51, 126, 58, 2, 0, [731, 733, 25, 34, 734]), (47, 6, 0, 4, 0, 0, []), (49, 2, 0, 4, 0, 0, []), (51, 19, 16, 67, 0, 0, []), (54, 3, 0, 0, 0, 0, []), (55, 1, 0, 2, 0, 0, []), (56, 10, 7, 0, 0, 0, []), (58, 3, 0, 0, 0, 0, []), (59, 21, 56, 4, 8, 592, []), (62, 1, 0, 3, 0, 0, []), (63, 12, 0, 0, 0, 0, []), (64, 51, 93, 43, 3, 0, [676, 678, 16, 34, 679]), (67, 2, 0, 4, 0, 0, []), (69, 32, 0, 0, 0, 0, [])]
/-- LeaseQueueModel.chance(I)I -/
def zo64 : List (Nat × zO) := [(0, 3, 0, 0, 0, 0, []), (1, 1, 0, 1, 0, 0, []), (2, 50, 82, 39, 1, 0, [650, 651, 34, 652]), (5, 19, 7, 12, 1, 0, []), (8, 9, 1, 0, 0, 0, []), (9, 18, 4, 13, 0, 0, []), (12, 9, 0, 0, 0, 0, []), (13, 9, 1, 0, 0, 0, []), (14, 51, 86, 37, 2, 0, [656, 658, 11, 34, 659]), (17, 19, 5, 22, 0, 0, []), (20, 9, 0, 0, 0, 0, []), (21, 32, 0, 0, 0, 0, []), (22, 9, 0, 0, 0, 0, []), (23, 5, 0, 2, 0, 0, []), (24, 9, 1, 0, 0, 0, []), (25, 5, 0, 3, 0, 0, []), (26, 1, 0, 3, 0, 0, []), (27, 3, 0, 0, 0, 0, []), (28, 21, 49, 4, 1, 585, []), (31, 20, 60, 91, 4, 0, []), (34, 3, 0, 0, 0, 0, []), (35, 1, 0, 3, 0, 0, []), (36, 9, 0, 0, 0, 0, []), (37, 51, 52, 42, 2, 0, [660, 662, 12, 34, 663]), (40, 1, 0, 1, 0, 0, []), (41, 20, 44, 85, 1, 0, []), (44, 3, 0, 0, 0, 0, []), (45, 1, 0, 3, 0, 0, []), (46, 9, 5, 0, 0, 0, []), (47, 51, 52, 42, 2, 0, [660, 662, 12, 34, 663]), (50, 9, 3, 0, 0, 0, []), (51, 20, 6, 57, 0, 0, []), (54, 18, 31, 85, 0, 0, []), (57, 3, 0, 0, 0, 0, []), (58, 1, 0, 3, 0, 0, []), (59, 9, 5, 0, 0, 0, []), (60, 9, 0, 0, 0, 0, []), (61, 51, 93, 43, 3, 0, [676, 678, 16, 34, 679]), (64, 3, 0, 0, 0, 0, []), (65, 1, 0, 3, 0, 0, []), (66, 9, 2, 0, 0, 0, []), (67, 3, 0, 0, 0, 0, []), (68, 21, 56, 4, 8, 592, []), (71, 51, 93, 43, 3, 0, [676, 678, 16, 34, 679]), (74, 3, 0, 0, 0, 0, []), (75, 1, 0, 3, 0, 0, []), (76, 10, 8, 0, 0, 0, []), (78, 9, 0, 0, 0, 0, []), (79, 51, 93, 43, 3, 0, [676, 678, 16, 34, 679]), (82, 17, 1, 2, 0, 0, []), (85, 17, 1, 3, 0, 0, []), (88, 18, (-62), 26, 0, 0, []), (91, 3, 0, 0, 0, 0, []), (92, 29, 0, 0, 0, 0, []), (93, 21, 67, 4, 4, 588, []), (96, 1, 0, 2, 0, 0, []), (97, 12, 0, 0, 0, 0, []), (98, 22, 67, 4, 4, 588, []), (101, 3, 0, 0, 0, 0, []), (102, 51, 90, 51, 0, 0, [664, 666, 13, 34, 667]), (105, 1, 0, 2, 0, 0, []), (106, 32, 0, 0, 0, 0, [])]
/-- LeaseQueueModel.pass(I)I -/
def zo65 : List (Nat × zO) := [(0, 3, 0, 0, 0, 0, []), (1, 1, 0, 1, 0, 0, []), (2, 9, 0, 0, 0, 0, []), (3, 11, 2000, 0, 0, 0, []), (6, 50, 45, 38, 3, 0, [653, 654, 34, 655]), (9, 19, 7, 16, 1, 0, []), (12, 9, 1, 0, 0, 0, []), (13, 18, 4, 17, 0, 0, []), (16, 9, 0, 0, 0, 0, []), (17, 9, 1, 0, 0, 0, []), (18, 51, 86, 37, 2, 0, [656, 658, 11, 34, 659]), (21, 19, 5, 26, 0, 0, []), (24, 9, 0, 0, 0, 0, []), (25, 32, 0, 0, 0, 0, []), (26, 3, 0, 0, 0, 0, []), (27, 29, 0, 0, 0, 0, []), (28, 21, 56, 4, 8, 592, []), (31, 1, 0, 1, 0, 0, []), (32, 12, 0, 0, 0, 0, []), (33, 22, 56, 4, 8, 592, []), (36, 9, 0, 0, 0, 0, []), (37, 5, 0, 2, 0, 0, []), (38, 9, 1, 0, 0, 0, []), (39, 5, 0, 3, 0, 0, []), (40, 1, 0, 3, 0, 0, []), (41, 3, 0, 0, 0, 0, []), (42, 21, 49, 4, 1, 585, []), (45, 20, 57, 102, 4, 0, []), (48, 3, 0, 0, 0, 0, []), (49, 1, 0, 3, 0, 0, []), (50, 9, 5, 0, 0, 0, []), (51, 51, 52, 42, 2, 0, [660, 662, 12, 34, 663]), (54, 9, 1, 0, 0, 0, []), (55, 20, 41, 96, 1, 0, []), (58, 3, 0, 0, 0, 0, []), (59, 1, 0, 3, 0, 0, []), (60, 10, 7, 0, 0, 0, []), (62, 51, 52, 42, 2, 0, [660, 662, 12, 34, 663]), (65, 3, 0, 0, 0, 0, []), (66, 21, 56, 4, 8, 592, []), (69, 20, 6, 75, 5, 0, []), (72, 18, 24, 96, 0, 0, []), (75, 3, 0, 0, 0, 0, []), (76, 1, 0, 3, 0, 0, []), (77, 3, 0, 0, 0, 0, []), (78, 1, 0, 3, 0, 0, []), (79, 51, 133, 60, 1, 0, [743, 745, 27, 34, 746]), (82, 19, 7, 89, 0, 0, []), (85, 9, 3, 0, 0, 0, []), (86, 18, 4, 90, 0, 0, []), (89, 9, 0, 0, 0, 0, []), (90, 51, 129, 59, 2, 0, [735, 737, 26, 34, 738]), (93, 17, 1, 2, 0, 0, []), (96, 17, 1, 3, 0, 0, []), (99, 18, (-59), 40, 0, 0, []), (102, 3, 0, 0, 0, 0, []), (103, 29, 0, 0, 0, 0, []), (104, 21, 67, 4, 4, 588, []), (107, 1, 0, 2, 0, 0, []), (108, 12, 0, 0, 0, 0, []), (109, 22, 67, 4, 4, 588, []), (112, 1, 0, 2, 0, 0, []), (113, 19, 7, 120, 5, 0, []), (116, 3, 0, 0, 0, 0, []), (117, 51, 90, 51, 0, 0, [664, 666, 13, 34, 667]), (120, 1, 0, 2, 0, 0, []), (121, 32, 0, 0, 0, 0, [])]
/-- LeaseQueueModel.write()I -/
def zo66 : List (Nat × zO) := [(0, 3, 0, 0, 0, 0, []), (1, 9, 0, 0, 0, 0, []), (2, 22, 41, 4, 18, 602, []), (5, 3, 0, 0, 0, 0, []), (6, 51, 79, 50, 0, 0, [668, 670, 14, 34, 671]), (9, 3, 0, 0, 0, 0, []), (10, 21, 67, 4, 4, 588, []), (13, 32, 0, 0, 0, 0, [])]
/-- LeaseQueueModel.crash()I -/
def zo67 : List (Nat × zO) := [(0, 3, 0, 0, 0, 0, []), (1, 9, 0, 0, 0, 0, []), (2, 22, 41, 4, 18, 602, []), (5, 3, 0, 0, 0, 0, []), (6, 3, 0, 0, 0, 0, []), (7, 21, 73, 4, 3, 587, []), (10, 22, 49, 4, 1, 585, []), (13, 9, 0, 0, 0, 0, []), (14, 5, 0, 1, 0, 0, []), (15, 60, 49, 1, 0, 2, [1, 7, 13, 585, 584, 586]), (44, 9, 1, 0, 0, 0, []), (45, 5, 0, 1, 0, 0, []), (46, 1, 0, 1, 0, 0, []), (47, 3, 0, 0, 0, 0, []), (48, 21, 49, 4, 1, 585, []), (51, 20, 25, 76, 4, 0, []), (54, 3, 0, 0, 0, 0, []), (55, 1, 0, 1, 0, 0, []), (56, 9, 5, 0, 0, 0, []), (57, 51, 52, 42, 2, 0, [660, 662, 12, 34, 663]), (60, 9, 1, 0, 0, 0, []), (61, 20, 9, 70, 1, 0, []), (64, 3, 0, 0, 0, 0, []), (65, 1, 0, 1, 0, 0, []), (66, 9, 0, 0, 0, 0, []), (67, 51, 129, 59, 2, 0, [735, 737, 26, 34, 738]), (70, 17, 1, 1, 0, 0, []), (73, 18, (-27), 46, 0, 0, []), (76, 3, 0, 0, 0, 0, []), (77, 3, 0, 0, 0, 0, []), (78, 21, 76, 4, 5, 589, []), (81, 22, 67, 4, 4, 588, []), (84, 3, 0, 0, 0, 0, []), (85, 9, 0, 0, 0, 0, []), (86, 22, 97, 4, 17, 601, []), (89, 3, 0, 0, 0, 0, []), (90, 29, 0, 0, 0, 0, []), (91, 21, 136, 4, 7, 591, []), (94, 9, 1, 0, 0, 0, []), (95, 12, 0, 0, 0, 0, []), (96, 22, 136, 4, 7, 591, []), (99, 3, 0, 0, 0, 0, []), (100, 21, 49, 4, 1, 585, []), (103, 32, 0, 0, 0, 0, [])]
/-- LeaseQueueModel.safe(Z)Z -/
def zo68 : List (Nat × zO) := [(0, 3, 0, 0, 0, 0, []), (1, 9, 0, 0, 0, 0, []), (2, 22, 41, 4, 18, 602, []), (5, 3, 0, 0, 0, 0, []), (6, 21, 16, 4, 9, 593, []), (9, 5, 0, 2, 0, 0, []), (10, 3, 0, 0, 0, 0, []), (11, 1, 0, 1, 0, 0, []), (12, 22, 16, 4, 9, 593, []), (15, 1, 0, 2, 0, 0, []), (16, 32, 0, 0, 0, 0, [])]
/-- LeaseQueueModel.limit(II)I -/
def zo69 : List (Nat × zO) := [(0, 3, 0, 0, 0, 0, []), (1, 1, 0, 1, 0, 0, []), (2, 50, 119, 40, 1, 0, [692, 693, 34, 694]), (5, 19, 13, 18, 0, 0, []), (8, 1, 0, 2, 0, 0, []), (9, 9, 0, 0, 0, 0, []), (10, 10, 20, 0, 0, 0, []), (12, 50, 45, 38, 3, 0, [653, 654, 34, 655]), (15, 19, 7, 22, 1, 0, []), (18, 9, 1, 0, 0, 0, []), (19, 18, 4, 23, 0, 0, []), (22, 9, 0, 0, 0, 0, []), (23, 9, 1, 0, 0, 0, []), (24, 51, 86, 37, 2, 0, [656, 658, 11, 34, 659]), (27, 19, 5, 32, 0, 0, []), (30, 9, 0, 0, 0, 0, []), (31, 32, 0, 0, 0, 0, []), (32, 3, 0, 0, 0, 0, []), (33, 21, 20, 4, 10, 594, []), (36, 1, 0, 1, 0, 0, []), (37, 23, 0, 0, 0, 0, []), (38, 5, 0, 3, 0, 0, []), (39, 3, 0, 0, 0, 0, []), (40, 21, 20, 4, 10, 594, []), (43, 1, 0, 1, 0, 0, []), (44, 1, 0, 2, 0, 0, []), (45, 24, 0, 0, 0, 0, []), (46, 1, 0, 3, 0, 0, []), (47, 32, 0, 0, 0, 0, [])]
/-- LeaseQueueModel.rate(III)V -/
def zo70 : List (Nat × zO) := [(0, 3, 0, 0, 0, 0, []), (1, 1, 0, 1, 0, 0, []), (2, 50, 82, 39, 1, 0, [650, 651, 34, 652]), (5, 19, 24, 29, 0, 0, []), (8, 1, 0, 2, 0, 0, []), (9, 9, 0, 0, 0, 0, []), (10, 10, 100, 0, 0, 0, []), (12, 50, 45, 38, 3, 0, [653, 654, 34, 655]), (15, 19, 14, 29, 0, 0, []), (18, 1, 0, 3, 0, 0, []), (19, 9, 1, 0, 0, 0, []), (20, 11, 1000, 0, 0, 0, []), (23, 50, 45, 38, 3, 0, [653, 654, 34, 655]), (26, 19, 7, 33, 1, 0, []), (29, 9, 1, 0, 0, 0, []), (30, 18, 4, 34, 0, 0, []), (33, 9, 0, 0, 0, 0, []), (34, 9, 1, 0, 0, 0, []), (35, 51, 86, 37, 2, 0, [656, 658, 11, 34, 659]), (38, 19, 4, 42, 0, 0, []), (41, 33, 0, 0, 0, 0, []), (42, 3, 0, 0, 0, 0, []), (43, 21, 23, 4, 11, 595, []), (46, 1, 0, 1, 0, 0, []), (47, 1, 0, 2, 0, 0, []), (48, 24, 0, 0, 0, 0, []), (49, 3, 0, 0, 0, 0, []), (50, 21, 26, 4, 12, 596, []), (53, 1, 0, 1, 0, 0, []), (54, 1, 0, 3, 0, 0, []), (55, 24, 0, 0, 0, 0, []), (56, 33, 0, 0, 0, 0, [])]
/-- LeaseQueueModel.tries(II)I -/
def zo71 : List (Nat × zO) := [(0, 3, 0, 0, 0, 0, []), (1, 1, 0, 1, 0, 0, []), (2, 50, 82, 39, 1, 0, [650, 651, 34, 652]), (5, 19, 13, 18, 0, 0, []), (8, 1, 0, 2, 0, 0, []), (9, 9, 1, 0, 0, 0, []), (10, 10, 20, 0, 0, 0, []), (12, 50, 45, 38, 3, 0, [653, 654, 34, 655]), (15, 19, 7, 22, 1, 0, []), (18, 9, 1, 0, 0, 0, []), (19, 18, 4, 23, 0, 0, []), (22, 9, 0, 0, 0, 0, []), (23, 9, 1, 0, 0, 0, []), (24, 51, 86, 37, 2, 0, [656, 658, 11, 34, 659]), (27, 19, 5, 32, 0, 0, []), (30, 9, 0, 0, 0, 0, []), (31, 32, 0, 0, 0, 0, []), (32, 3, 0, 0, 0, 0, []), (33, 21, 29, 4, 13, 597, []), (36, 1, 0, 1, 0, 0, []), (37, 23, 0, 0, 0, 0, []), (38, 5, 0, 3, 0, 0, []), (39, 3, 0, 0, 0, 0, []), (40, 21, 29, 4, 13, 597, []), (43, 1, 0, 1, 0, 0, []), (44, 1, 0, 2, 0, 0, []), (45, 24, 0, 0, 0, 0, []), (46, 1, 0, 3, 0, 0, []), (47, 32, 0, 0, 0, 0, [])]
/-- LeaseQueueModel.about(II)I -/
def zo72 : List (Nat × zO) := [(0, 3, 0, 0, 0, 0, []), (1, 3, 0, 0, 0, 0, []), (2, 1, 0, 1, 0, 0, []), (3, 51, 100, 41, 1, 0, [684, 686, 17, 34, 687]), (6, 19, 13, 19, 0, 0, []), (9, 1, 0, 2, 0, 0, []), (10, 9, 0, 0, 0, 0, []), (11, 10, 9, 0, 0, 0, []), (13, 50, 45, 38, 3, 0, [653, 654, 34, 655]), (16, 19, 7, 23, 1, 0, []), (19, 9, 1, 0, 0, 0, []), (20, 18, 4, 24, 0, 0, []), (23, 9, 0, 0, 0, 0, []), (24, 9, 1, 0, 0, 0, []), (25, 51, 86, 37, 2, 0, [656, 658, 11, 34, 659]), (28, 19, 5, 33, 0, 0, []), (31, 9, 0, 0, 0, 0, []), (32, 32, 0, 0, 0, 0, []), (33, 1, 0, 2, 0, 0, []), (34, 10, 9, 0, 0, 0, []), (36, 20, 11, 47, 1, 0, []), (39, 3, 0, 0, 0, 0, []), (40, 1, 0, 1, 0, 0, []), (41, 51, 59, 44, 1, 0, [715, 717, 23, 34, 718]), (44, 18, 9, 53, 0, 0, []), (47, 3, 0, 0, 0, 0, []), (48, 1, 0, 1, 0, 0, []), (49, 1, 0, 2, 0, 0, []), (50, 51, 52, 42, 2, 0, [660, 662, 12, 34, 663]), (53, 32, 0, 0, 0, 0, [])]
/-- LeaseQueueModel.count(II)I -/
def zo73 : List (Nat × zO) := [(0, 3, 0, 0, 0, 0, []), (1, 1, 0, 1, 0, 0, []), (2, 50, 82, 39, 1, 0, [650, 651, 34, 652]), (5, 19, 12, 17, 0, 0, []), (8, 1, 0, 2, 0, 0, []), (9, 9, 0, 0, 0, 0, []), (10, 9, 4, 0, 0, 0, []), (11, 50, 45, 38, 3, 0, [653, 654, 34, 655]), (14, 19, 7, 21, 1, 0, []), (17, 9, 1, 0, 0, 0, []), (18, 18, 4, 22, 0, 0, []), (21, 9, 0, 0, 0, 0, []), (22, 9, 1, 0, 0, 0, []), (23, 51, 86, 37, 2, 0, [656, 658, 11, 34, 659]), (26, 19, 5, 31, 0, 0, []), (29, 9, 0, 0, 0, 0, []), (30, 32, 0, 0, 0, 0, []), (31, 9, 0, 0, 0, 0, []), (32, 5, 0, 3, 0, 0, []), (33, 9, 1, 0, 0, 0, []), (34, 6, 0, 4, 0, 0, []), (36, 2, 0, 4, 0, 0, []), (38, 3, 0, 0, 0, 0, []), (39, 21, 49, 4, 1, 585, []), (42, 20, 56, 98, 4, 0, []), (45, 1, 0, 3, 0, 0, []), (46, 3, 0, 0, 0, 0, []), (47, 2, 0, 4, 0, 0, []), (49, 9, 0, 0, 0, 0, []), (50, 51, 52, 42, 2, 0, [660, 662, 12, 34, 663]), (53, 1, 0, 1, 0, 0, []), (54, 20, 35, 89, 1, 0, []), (57, 1, 0, 2, 0, 0, []), (58, 9, 4, 0, 0, 0, []), (59, 20, 15, 74, 1, 0, []), (62, 3, 0, 0, 0, 0, []), (63, 2, 0, 4, 0, 0, []), (65, 51, 106, 45, 1, 0, [711, 713, 22, 34, 714]), (68, 19, 21, 89, 0, 0, []), (71, 18, 14, 85, 0, 0, []), (74, 3, 0, 0, 0, 0, []), (75, 2, 0, 4, 0, 0, []), (77, 9, 5, 0, 0, 0, []), (78, 51, 52, 42, 2, 0, [660, 662, 12, 34, 663]), (81, 1, 0, 2, 0, 0, []), (82, 20, 7, 89, 1, 0, []), (85, 9, 1, 0, 0, 0, []), (86, 18, 4, 90, 0, 0, []), (89, 9, 0, 0, 0, 0, []), (90, 12, 0, 0, 0, 0, []), (91, 5, 0, 3, 0, 0, []), (92, 17, 1, 4, 0, 0, []), (95, 18, (-59), 36, 0, 0, []), (98, 1, 0, 3, 0, 0, []), (99, 32, 0, 0, 0, 0, [])]
/-- LeaseQueueModel.peek(II)I -/
def zo74 : List (Nat × zO) := [(0, 3, 0, 0, 0, 0, []), (1, 1, 0, 1, 0, 0, []), (2, 50, 82, 39, 1, 0, [650, 651, 34, 652]), (5, 19, 7, 12, 1, 0, []), (8, 9, 1, 0, 0, 0, []), (9, 18, 4, 13, 0, 0, []), (12, 9, 0, 0, 0, 0, []), (13, 9, 1, 0, 0, 0, []), (14, 51, 86, 37, 2, 0, [656, 658, 11, 34, 659]), (17, 19, 5, 22, 0, 0, []), (20, 9, 0, 0, 0, 0, []), (21, 32, 0, 0, 0, 0, []), (22, 9, 1, 0, 0, 0, []), (23, 5, 0, 3, 0, 0, []), (24, 1, 0, 3, 0, 0, []), (25, 3, 0, 0, 0, 0, []), (26, 21, 49, 4, 1, 585, []), (29, 20, 99, 128, 4, 0, []), (32, 3, 0, 0, 0, 0, []), (33, 1, 0, 3, 0, 0, []), (34, 9, 0, 0, 0, 0, []), (35, 51, 52, 42, 2, 0, [660, 662, 12, 34, 663]), (38, 1, 0, 1, 0, 0, []), (39, 20, 83, 122, 1, 0, []), (42, 3, 0, 0, 0, 0, []), (43, 1, 0, 3, 0, 0, []), (44, 51, 106, 45, 1, 0, [711, 713, 22, 34, 714]), (47, 19, 6, 53, 1, 0, []), (50, 18, 72, 122, 0, 0, []), (53, 9, 0, 0, 0, 0, []), (54, 6, 0, 4, 0, 0, []), (56, 9, 1, 0, 0, 0, []), (57, 6, 0, 5, 0, 0, []), (59, 2, 0, 5, 0, 0, []), (61, 3, 0, 0, 0, 0, []), (62, 21, 49, 4, 1, 585, []), (65, 20, 49, 114, 4, 0, []), (68, 2, 0, 4, 0, 0, []), (70, 3, 0, 0, 0, 0, []), (71, 2, 0, 5, 0, 0, []), (73, 9, 0, 0, 0, 0, []), (74, 51, 52, 42, 2, 0, [660, 662, 12, 34, 663]), (77, 1, 0, 1, 0, 0, []), (78, 20, 26, 104, 1, 0, []), (81, 3, 0, 0, 0, 0, []), (82, 2, 0, 5, 0, 0, []), (84, 51, 106, 45, 1, 0, [711, 713, 22, 34, 714]), (87, 19, 17, 104, 0, 0, []), (90, 3, 0, 0, 0, 0, []), (91, 2, 0, 5, 0, 0, []), (93, 1, 0, 3, 0, 0, []), (94, 51, 109, 46, 2, 0, [719, 721, 24, 34, 722]), (97, 19, 7, 104, 0, 0, []), (100, 9, 1, 0, 0, 0, []), (101, 18, 4, 105, 0, 0, []), (104, 9, 0, 0, 0, 0, []), (105, 12, 0, 0, 0, 0, []), (106, 6, 0, 4, 0, 0, []), (108, 17, 1, 5, 0, 0, []), (111, 18, (-52), 59, 0, 0, []), (114, 2, 0, 4, 0, 0, []), (116, 1, 0, 2, 0, 0, []), (117, 20, 5, 122, 1, 0, []), (120, 1, 0, 3, 0, 0, []), (121, 32, 0, 0, 0, 0, []), (122, 17, 1, 3, 0, 0, []), (125, 18, (-101), 24, 0, 0, []), (128, 9, (-1), 0, 0, 0, []), (129, 32, 0, 0, 0, 0, [])]
/-- LeaseQueueModel.next(I)I -/
def zo75 : List (Nat × zO) := [(0, 3, 0, 0, 0, 0, []), (1, 1, 0, 1, 0, 0, []), (2, 50, 82, 39, 1, 0, [650, 651, 34, 652]), (5, 19, 7, 12, 1, 0, []), (8, 9, 1, 0, 0, 0, []), (9, 18, 4, 13, 0, 0, []), (12, 9, 0, 0, 0, 0, []), (13, 9, 1, 0, 0, 0, []), (14, 51, 86, 37, 2, 0, [656, 658, 11, 34, 659]), (17, 19, 5, 22, 0, 0, []), (20, 9, 0, 0, 0, 0, []), (21, 32, 0, 0, 0, 0, []), (22, 9, (-1), 0, 0, 0, []), (23, 5, 0, 2, 0, 0, []), (24, 9, 1, 0, 0, 0, []), (25, 5, 0, 3, 0, 0, []), (26, 1, 0, 3, 0, 0, []), (27, 3, 0, 0, 0, 0, []), (28, 21, 49, 4, 1, 585, []), (31, 20, 117, 148, 4, 0, []), (34, 3, 0, 0, 0, 0, []), (35, 1, 0, 3, 0, 0, []), (36, 9, 0, 0, 0, 0, []), (37, 51, 52, 42, 2, 0, [660, 662, 12, 34, 663]), (40, 1, 0, 1, 0, 0, []), (41, 20, 101, 142, 1, 0, []), (44, 3, 0, 0, 0, 0, []), (45, 1, 0, 3, 0, 0, []), (46, 51, 59, 44, 1, 0, [715, 717, 23, 34, 718]), (49, 19, 6, 55, 5, 0, []), (52, 18, 90, 142, 0, 0, []), (55, 9, (-1), 0, 0, 0, []), (56, 6, 0, 4, 0, 0, []), (58, 3, 0, 0, 0, 0, []), (59, 1, 0, 3, 0, 0, []), (60, 9, 5, 0, 0, 0, []), (61, 51, 52, 42, 2, 0, [660, 662, 12, 34, 663]), (64, 19, 31, 95, 1, 0, []), (67, 3, 0, 0, 0, 0, []), (68, 1, 0, 3, 0, 0, []), (69, 9, 2, 0, 0, 0, []), (70, 51, 52, 42, 2, 0, [660, 662, 12, 34, 663]), (73, 3, 0, 0, 0, 0, []), (74, 21, 56, 4, 8, 592, []), (77, 20, 12, 89, 5, 0, []), (80, 3, 0, 0, 0, 0, []), (81, 1, 0, 3, 0, 0, []), (82, 9, 2, 0, 0, 0, []), (83, 51, 52, 42, 2, 0, [660, 662, 12, 34, 663]), (86, 18, 7, 93, 0, 0, []), (89, 3, 0, 0, 0, 0, []), (90, 21, 56, 4, 8, 592, []), (93, 6, 0, 4, 0, 0, []), (95, 3, 0, 0, 0, 0, []), (96, 1, 0, 3, 0, 0, []), (97, 9, 5, 0, 0, 0, []), (98, 51, 52, 42, 2, 0, [660, 662, 12, 34, 663]), (101, 9, 1, 0, 0, 0, []), (102, 20, 20, 122, 1, 0, []), (105, 3, 0, 0, 0, 0, []), (106, 1, 0, 3, 0, 0, []), (107, 51, 133, 60, 1, 0, [743, 745, 27, 34, 746]), (110, 19, 12, 122, 1, 0, []), (113, 3, 0, 0, 0, 0, []), (114, 1, 0, 3, 0, 0, []), (115, 10, 7, 0, 0, 0, []), (117, 51, 52, 42, 2, 0, [660, 662, 12, 34, 663]), (120, 6, 0, 4, 0, 0, []), (122, 2, 0, 4, 0, 0, []), (124, 9, (-1), 0, 0, 0, []), (125, 20, 17, 142, 0, 0, []), (128, 1, 0, 2, 0, 0, []), (129, 9, (-1), 0, 0, 0, []), (130, 20, 9, 139, 0, 0, []), (133, 2, 0, 4, 0, 0, []), (135, 1, 0, 2, 0, 0, []), (136, 20, 6, 142, 3, 0, []), (139, 2, 0, 4, 0, 0, []), (141, 5, 0, 2, 0, 0, []), (142, 17, 1, 3, 0, 0, []), (145, 18, (-119), 26, 0, 0, []), (148, 1, 0, 2, 0, 0, []), (149, 32, 0, 0, 0, 0, [])]
/-- LeaseQueueModel.total(I)I -/
def zo76 : List (Nat × zO) := [(0, 3, 0, 0, 0, 0, []), (1, 1, 0, 1, 0, 0, []), (2, 9, 0, 0, 0, 0, []), (3, 10, 8, 0, 0, 0, []), (5, 50, 45, 38, 3, 0, [653, 654, 34, 655]), (8, 19, 7, 15, 1, 0, []), (11, 9, 1, 0, 0, 0, []), (12, 18, 4, 16, 0, 0, []), (15, 9, 0, 0, 0, 0, []), (16, 9, 1, 0, 0, 0, []), (17, 51, 86, 37, 2, 0, [656, 658, 11, 34, 659]), (20, 19, 5, 25, 0, 0, []), (23, 9, 0, 0, 0, 0, []), (24, 32, 0, 0, 0, 0, []), (25, 1, 0, 1, 0, 0, []), (26, 37, 0, 85, 5, 34, [60, 65, 70, 75, 80]), (60, 3, 0, 0, 0, 0, []), (61, 21, 56, 4, 8, 592, []), (64, 32, 0, 0, 0, 0, []), (65, 3, 0, 0, 0, 0, []), (66, 21, 49, 4, 1, 585, []), (69, 32, 0, 0, 0, 0, []), (70, 3, 0, 0, 0, 0, []), (71, 21, 67, 4, 4, 588, []), (74, 32, 0, 0, 0, 0, []), (75, 3, 0, 0, 0, 0, []), (76, 21, 70, 4, 6, 590, []), (79, 32, 0, 0, 0, 0, []), (80, 3, 0, 0, 0, 0, []), (81, 21, 136, 4, 7, 591, []), (84, 32, 0, 0, 0, 0, []), (85, 3, 0, 0, 0, 0, []), (86, 1, 0, 1, 0, 0, []), (87, 9, 5, 0, 0, 0, []), (88, 13, 0, 0, 0, 0, []), (89, 51, 103, 47, 1, 0, [707, 709, 21, 34, 710]), (92, 32, 0, 0, 0, 0, [])]
/-- LeaseQueue$Items.<init>()V -/
def zo77 : List (Nat × zO) := [(0, 3, 0, 0, 0, 0, []), (1, 70, 3, 0, 0, 0, [56, 49, 50]), (4, 3, 0, 0, 0, 0, []), (5, 11, 401, 0, 0, 0, []), (8, 72, 0, 0, 0, 0, [110]), (10, 75, 9, 0, 1, 62, []), (13, 3, 0, 0, 0, 0, []), (14, 11, 401, 0, 0, 0, []), (17, 72, 0, 0, 0, 0, [110]), (19, 75, 15, 0, 2, 64, []), (22, 3, 0, 0, 0, 0, []), (23, 11, 401, 0, 0, 0, []), (26, 72, 0, 0, 0, 0, [110]), (28, 75, 18, 0, 3, 66, []), (31, 3, 0, 0, 0, 0, []), (32, 11, 401, 0, 0, 0, []), (35, 72, 0, 0, 0, 0, [110]), (37, 75, 21, 0, 4, 69, []), (40, 3, 0, 0, 0, 0, []), (41, 11, 401, 0, 0, 0, []), (44, 72, 0, 0, 0, 0, [110]), (46, 75, 24, 0, 5, 71, []), (49, 3, 0, 0, 0, 0, []), (50, 11, 401, 0, 0, 0, []), (53, 72, 0, 0, 0, 0, [110]), (55, 75, 27, 0, 6, 73, []), (58, 3, 0, 0, 0, 0, []), (59, 11, 401, 0, 0, 0, []), (62, 72, 0, 0, 0, 0, [110]), (64, 75, 30, 0, 7, 76, []), (67, 3, 0, 0, 0, 0, []), (68, 11, 401, 0, 0, 0, []), (71, 72, 0, 0, 0, 0, [110]), (73, 75, 33, 0, 8, 78, []), (76, 3, 0, 0, 0, 0, []), (77, 11, 401, 0, 0, 0, []), (80, 72, 0, 0, 0, 0, [110]), (82, 75, 36, 0, 9, 80, []), (85, 3, 0, 0, 0, 0, []), (86, 11, 401, 0, 0, 0, []), (89, 72, 0, 0, 0, 0, [110]), (91, 75, 39, 0, 10, 83, []), (94, 3, 0, 0, 0, 0, []), (95, 9, 3, 0, 0, 0, []), (96, 11, 401, 0, 0, 0, []), (99, 74, 42, 0, 0, 0, [57, 110]), (103, 75, 44, 0, 11, 84, []), (106, 33, 0, 0, 0, 0, [])]
/-- LeaseQueue$Items.add(IIIII)I -/
def zo78 : List (Nat × zO) := [(0, 3, 0, 0, 0, 0, []), (1, 29, 0, 0, 0, 0, []), (2, 21, 47, 0, 0, 59, []), (5, 9, 1, 0, 0, 0, []), (6, 12, 0, 0, 0, 0, []), (7, 22, 47, 0, 0, 59, []), (10, 3, 0, 0, 0, 0, []), (11, 21, 9, 0, 1, 62, []), (14, 3, 0, 0, 0, 0, []), (15, 21, 47, 0, 0, 59, []), (18, 1, 0, 1, 0, 0, []), (19, 24, 0, 0, 0, 0, []), (20, 3, 0, 0, 0, 0, []), (21, 21, 15, 0, 2, 64, []), (24, 3, 0, 0, 0, 0, []), (25, 21, 47, 0, 0, 59, []), (28, 1, 0, 2, 0, 0, []), (29, 24, 0, 0, 0, 0, []), (30, 3, 0, 0, 0, 0, []), (31, 21, 18, 0, 3, 66, []), (34, 3, 0, 0, 0, 0, []), (35, 21, 47, 0, 0, 59, []), (38, 1, 0, 3, 0, 0, []), (39, 24, 0, 0, 0, 0, []), (40, 3, 0, 0, 0, 0, []), (41, 21, 21, 0, 4, 69, []), (44, 3, 0, 0, 0, 0, []), (45, 21, 47, 0, 0, 59, []), (48, 2, 0, 4, 0, 0, []), (50, 24, 0, 0, 0, 0, []), (51, 3, 0, 0, 0, 0, []), (52, 21, 24, 0, 5, 71, []), (55, 3, 0, 0, 0, 0, []), (56, 21, 47, 0, 0, 59, []), (59, 2, 0, 5, 0, 0, []), (61, 24, 0, 0, 0, 0, []), (62, 3, 0, 0, 0, 0, []), (63, 21, 36, 0, 9, 80, []), (66, 3, 0, 0, 0, 0, []), (67, 21, 47, 0, 0, 59, []), (70, 9, 0, 0, 0, 0, []), (71, 24, 0, 0, 0, 0, []), (72, 3, 0, 0, 0, 0, []), (73, 3, 0, 0, 0, 0, []), (74, 21, 47, 0, 0, 59, []), (77, 9, 0, 0, 0, 0, []), (78, 51, 51, 81, 2, 0, [344, 227, 228, 30, 229]), (81, 3, 0, 0, 0, 0, []), (82, 21, 47, 0, 0, 59, []), (85, 32, 0, 0, 0, 0, [])]
/-- LeaseQueue$Items.setWaits(I[II)V -/
def zo79 : List (Nat × zO) := [(0, 3, 0, 0, 0, 0, []), (1, 21, 39, 0, 10, 83, []), (4, 1, 0, 1, 0, 0, []), (5, 1, 0, 3, 0, 0, []), (6, 24, 0, 0, 0, 0, []), (7, 9, 0, 0, 0, 0, []), (8, 6, 0, 4, 0, 0, []), (10, 2, 0, 4, 0, 0, []), (12, 1, 0, 3, 0, 0, []), (13, 20, 22, 35, 3, 0, []), (16, 3, 0, 0, 0, 0, []), (17, 21, 44, 0, 11, 84, []), (20, 2, 0, 4, 0, 0, []), (22, 25, 0, 0, 0, 0, []), (23, 1, 0, 1, 0, 0, []), (24, 3, 0, 2, 0, 0, []), (25, 2, 0, 4, 0, 0, []), (27, 23, 0, 0, 0, 0, []), (28, 24, 0, 0, 0, 0, []), (29, 17, 1, 4, 0, 0, []), (32, 18, (-22), 10, 0, 0, []), (35, 33, 0, 0, 0, 0, [])]
/-- LeaseQueue$Items.startLease(III)V -/
def zo80 : List (Nat × zO) := [(0, 3, 0, 0, 0, 0, []), (1, 21, 27, 0, 6, 73, []), (4, 1, 0, 1, 0, 0, []), (5, 9, 1, 0, 0, 0, []), (6, 24, 0, 0, 0, 0, []), (7, 3, 0, 0, 0, 0, []), (8, 21, 30, 0, 7, 76, []), (11, 1, 0, 1, 0, 0, []), (12, 1, 0, 2, 0, 0, []), (13, 24, 0, 0, 0, 0, []), (14, 3, 0, 0, 0, 0, []), (15, 21, 33, 0, 8, 78, []), (18, 1, 0, 1, 0, 0, []), (19, 1, 0, 3, 0, 0, []), (20, 24, 0, 0, 0, 0, []), (21, 3, 0, 0, 0, 0, []), (22, 21, 36, 0, 9, 80, []), (25, 1, 0, 1, 0, 0, []), (26, 30, 0, 0, 0, 0, []), (27, 23, 0, 0, 0, 0, []), (28, 9, 1, 0, 0, 0, []), (29, 12, 0, 0, 0, 0, []), (30, 24, 0, 0, 0, 0, []), (31, 33, 0, 0, 0, 0, [])]
/-- LeaseQueue$Items.endLease(II)V -/
def zo81 : List (Nat × zO) := [(0, 3, 0, 0, 0, 0, []), (1, 21, 27, 0, 6, 73, []), (4, 1, 0, 1, 0, 0, []), (5, 1, 0, 2, 0, 0, []), (6, 24, 0, 0, 0, 0, []), (7, 3, 0, 0, 0, 0, []), (8, 21, 30, 0, 7, 76, []), (11, 1, 0, 1, 0, 0, []), (12, 9, (-1), 0, 0, 0, []), (13, 24, 0, 0, 0, 0, []), (14, 3, 0, 0, 0, 0, []), (15, 21, 33, 0, 8, 78, []), (18, 1, 0, 1, 0, 0, []), (19, 9, (-1), 0, 0, 0, []), (20, 24, 0, 0, 0, 0, []), (21, 33, 0, 0, 0, 0, [])]
/-- LeaseQueue$Items.isLeasedTo(II)Z -/
def zo82 : List (Nat × zO) := [(0, 3, 0, 0, 0, 0, []), (1, 21, 27, 0, 6, 73, []), (4, 1, 0, 1, 0, 0, []), (5, 23, 0, 0, 0, 0, []), (6, 9, 1, 0, 0, 0, []), (7, 20, 17, 24, 1, 0, []), (10, 3, 0, 0, 0, 0, []), (11, 21, 30, 0, 7, 76, []), (14, 1, 0, 1, 0, 0, []), (15, 23, 0, 0, 0, 0, []), (16, 1, 0, 2, 0, 0, []), (17, 20, 7, 24, 1, 0, []), (20, 9, 1, 0, 0, 0, []), (21, 18, 4, 25, 0, 0, []), (24, 9, 0, 0, 0, 0, []), (25, 32, 0, 0, 0, 0, [])]
/-- LeaseQueue$Items.isIn(III)Z -/
def zo83 : List (Nat × zO) := [(0, 3, 0, 0, 0, 0, []), (1, 21, 9, 0, 1, 62, []), (4, 1, 0, 1, 0, 0, []), (5, 23, 0, 0, 0, 0, []), (6, 1, 0, 2, 0, 0, []), (7, 20, 17, 24, 1, 0, []), (10, 3, 0, 0, 0, 0, []), (11, 21, 27, 0, 6, 73, []), (14, 1, 0, 1, 0, 0, []), (15, 23, 0, 0, 0, 0, []), (16, 1, 0, 3, 0, 0, []), (17, 20, 7, 24, 1, 0, []), (20, 9, 1, 0, 0, 0, []), (21, 18, 4, 25, 0, 0, []), (24, 9, 0, 0, 0, 0, []), (25, 32, 0, 0, 0, 0, [])]
/-- LeaseQueue$Items.isReadyIn(III)Z -/
def zo84 : List (Nat × zO) := [(0, 3, 0, 0, 0, 0, []), (1, 1, 0, 1, 0, 0, []), (2, 1, 0, 2, 0, 0, []), (3, 9, 0, 0, 0, 0, []), (4, 51, 55, 83, 3, 0, [433, 434, 435, 30, 436]), (7, 19, 25, 32, 0, 0, []), (10, 3, 0, 0, 0, 0, []), (11, 21, 18, 0, 3, 66, []), (14, 1, 0, 1, 0, 0, []), (15, 23, 0, 0, 0, 0, []), (16, 1, 0, 3, 0, 0, []), (17, 20, 15, 32, 4, 0, []), (20, 3, 0, 0, 0, 0, []), (21, 1, 0, 1, 0, 0, []), (22, 51, 59, 85, 1, 0, [437, 438, 439, 30, 440]), (25, 19, 7, 32, 1, 0, []), (28, 9, 1, 0, 0, 0, []), (29, 18, 4, 33, 0, 0, []), (32, 9, 0, 0, 0, 0, []), (33, 32, 0, 0, 0, 0, [])]
/-- LeaseQueue$Items.waitsLeft(I)I -/
def zo85 : List (Nat × zO) := [(0, 9, 0, 0, 0, 0, []), (1, 5, 0, 2, 0, 0, []), (2, 9, 0, 0, 0, 0, []), (3, 5, 0, 3, 0, 0, []), (4, 1, 0, 3, 0, 0, []), (5, 3, 0, 0, 0, 0, []), (6, 21, 39, 0, 10, 83, []), (9, 1, 0, 1, 0, 0, []), (10, 23, 0, 0, 0, 0, []), (11, 20, 29, 40, 3, 0, []), (14, 3, 0, 0, 0, 0, []), (15, 21, 27, 0, 6, 73, []), (18, 3, 0, 0, 0, 0, []), (19, 21, 44, 0, 11, 84, []), (22, 1, 0, 3, 0, 0, []), (23, 25, 0, 0, 0, 0, []), (24, 1, 0, 1, 0, 0, []), (25, 23, 0, 0, 0, 0, []), (26, 23, 0, 0, 0, 0, []), (27, 9, 2, 0, 0, 0, []), (28, 20, 6, 34, 0, 0, []), (31, 17, 1, 2, 0, 0, []), (34, 17, 1, 3, 0, 0, []), (37, 18, (-33), 4, 0, 0, []), (40, 1, 0, 2, 0, 0, []), (41, 32, 0, 0, 0, 0, [])]
/-- LeaseQueue$Items.comesBefore(II)Z -/
def zo86 : List (Nat × zO) := [(0, 3, 0, 0, 0, 0, []), (1, 21, 15, 0, 2, 64, []), (4, 1, 0, 1, 0, 0, []), (5, 23, 0, 0, 0, 0, []), (6, 3, 0, 0, 0, 0, []), (7, 21, 15, 0, 2, 64, []), (10, 1, 0, 2, 0, 0, []), (11, 23, 0, 0, 0, 0, []), (12, 20, 24, 36, 0, 0, []), (15, 3, 0, 0, 0, 0, []), (16, 21, 15, 0, 2, 64, []), (19, 1, 0, 1, 0, 0, []), (20, 23, 0, 0, 0, 0, []), (21, 3, 0, 0, 0, 0, []), (22, 21, 15, 0, 2, 64, []), (25, 1, 0, 2, 0, 0, []), (26, 23, 0, 0, 0, 0, []), (27, 20, 7, 34, 3, 0, []), (30, 9, 1, 0, 0, 0, []), (31, 18, 4, 35, 0, 0, []), (34, 9, 0, 0, 0, 0, []), (35, 32, 0, 0, 0, 0, []), (36, 3, 0, 0, 0, 0, []), (37, 21, 18, 0, 3, 66, []), (40, 1, 0, 1, 0, 0, []), (41, 23, 0, 0, 0, 0, []), (42, 3, 0, 0, 0, 0, []), (43, 21, 18, 0, 3, 66, []), (46, 1, 0, 2, 0, 0, []), (47, 23, 0, 0, 0, 0, []), (48, 20, 24, 72, 0, 0, []), (51, 3, 0, 0, 0, 0, []), (52, 21, 18, 0, 3, 66, []), (55, 1, 0, 1, 0, 0, []), (56, 23, 0, 0, 0, 0, []), (57, 3, 0, 0, 0, 0, []), (58, 21, 18, 0, 3, 66, []), (61, 1, 0, 2, 0, 0, []), (62, 23, 0, 0, 0, 0, []), (63, 20, 7, 70, 3, 0, []), (66, 9, 1, 0, 0, 0, []), (67, 18, 4, 71, 0, 0, []), (70, 9, 0, 0, 0, 0, []), (71, 32, 0, 0, 0, 0, []), (72, 1, 0, 1, 0, 0, []), (73, 1, 0, 2, 0, 0, []), (74, 20, 7, 81, 3, 0, []), (77, 9, 1, 0, 0, 0, []), (78, 18, 4, 82, 0, 0, []), (81, 9, 0, 0, 0, 0, []), (82, 32, 0, 0, 0, 0, [])]
/-- LeaseQueue$Items.firstReady(II)I -/
def zo87 : List (Nat × zO) := [(0, 3, 0, 0, 0, 0, []), (1, 9, (-1), 0, 0, 0, []), (2, 1, 0, 1, 0, 0, []), (3, 1, 0, 2, 0, 0, []), (4, 51, 63, 88, 3, 0, [425, 426, 427, 30, 428]), (7, 32, 0, 0, 0, 0, [])]
/-- LeaseQueue$Items.firstReadyBehind(III)I -/
def zo88 : List (Nat × zO) := [(0, 9, (-1), 0, 0, 0, []), (1, 6, 0, 4, 0, 0, []), (3, 9, 1, 0, 0, 0, []), (4, 6, 0, 5, 0, 0, []), (6, 2, 0, 5, 0, 0, []), (8, 3, 0, 0, 0, 0, []), (9, 21, 47, 0, 0, 59, []), (12, 20, 56, 68, 4, 0, []), (15, 3, 0, 0, 0, 0, []), (16, 2, 0, 5, 0, 0, []), (18, 1, 0, 2, 0, 0, []), (19, 1, 0, 3, 0, 0, []), (20, 51, 67, 84, 3, 0, [429, 430, 431, 30, 432]), (23, 19, 39, 62, 0, 0, []), (26, 1, 0, 1, 0, 0, []), (27, 9, (-1), 0, 0, 0, []), (28, 20, 13, 41, 0, 0, []), (31, 3, 0, 0, 0, 0, []), (32, 1, 0, 1, 0, 0, []), (33, 2, 0, 5, 0, 0, []), (35, 51, 70, 86, 2, 0, [441, 442, 443, 30, 444]), (38, 19, 24, 62, 0, 0, []), (41, 2, 0, 4, 0, 0, []), (43, 9, (-1), 0, 0, 0, []), (44, 20, 14, 58, 0, 0, []), (47, 3, 0, 0, 0, 0, []), (48, 2, 0, 5, 0, 0, []), (50, 2, 0, 4, 0, 0, []), (52, 51, 70, 86, 2, 0, [441, 442, 443, 30, 444]), (55, 19, 7, 62, 0, 0, []), (58, 2, 0, 5, 0, 0, []), (60, 6, 0, 4, 0, 0, []), (62, 17, 1, 5, 0, 0, []), (65, 18, (-59), 6, 0, 0, []), (68, 2, 0, 4, 0, 0, []), (70, 32, 0, 0, 0, 0, [])]
/-- LeaseQueue$Items.notDoneWithKey(II)I -/
def zo89 : List (Nat × zO) := [(0, 1, 0, 2, 0, 0, []), (1, 19, 5, 6, 1, 0, []), (4, 9, (-1), 0, 0, 0, []), (5, 32, 0, 0, 0, 0, []), (6, 9, 1, 0, 0, 0, []), (7, 5, 0, 3, 0, 0, []), (8, 1, 0, 3, 0, 0, []), (9, 3, 0, 0, 0, 0, []), (10, 21, 47, 0, 0, 59, []), (13, 20, 41, 54, 4, 0, []), (16, 3, 0, 0, 0, 0, []), (17, 21, 24, 0, 5, 71, []), (20, 1, 0, 3, 0, 0, []), (21, 23, 0, 0, 0, 0, []), (22, 1, 0, 2, 0, 0, []), (23, 20, 25, 48, 1, 0, []), (26, 3, 0, 0, 0, 0, []), (27, 21, 9, 0, 1, 62, []), (30, 1, 0, 3, 0, 0, []), (31, 23, 0, 0, 0, 0, []), (32, 1, 0, 1, 0, 0, []), (33, 20, 15, 48, 1, 0, []), (36, 3, 0, 0, 0, 0, []), (37, 21, 27, 0, 6, 73, []), (40, 1, 0, 3, 0, 0, []), (41, 23, 0, 0, 0, 0, []), (42, 9, 2, 0, 0, 0, []), (43, 20, 5, 48, 0, 0, []), (46, 1, 0, 3, 0, 0, []), (47, 32, 0, 0, 0, 0, []), (48, 17, 1, 3, 0, 0, []), (51, 18, (-43), 8, 0, 0, []), (54, 9, (-1), 0, 0, 0, []), (55, 32, 0, 0, 0, 0, [])]
/-- LeaseQueue$Items.leasedTo(I)I -/
def zo90 : List (Nat × zO) := [(0, 9, 0, 0, 0, 0, []), (1, 5, 0, 2, 0, 0, []), (2, 9, 1, 0, 0, 0, []), (3, 5, 0, 3, 0, 0, []), (4, 1, 0, 3, 0, 0, []), (5, 3, 0, 0, 0, 0, []), (6, 21, 47, 0, 0, 59, []), (9, 20, 21, 30, 4, 0, []), (12, 3, 0, 0, 0, 0, []), (13, 1, 0, 3, 0, 0, []), (14, 1, 0, 1, 0, 0, []), (15, 51, 74, 82, 2, 0, [403, 404, 405, 30, 406]), (18, 19, 6, 24, 0, 0, []), (21, 17, 1, 2, 0, 0, []), (24, 17, 1, 3, 0, 0, []), (27, 18, (-23), 4, 0, 0, []), (30, 1, 0, 2, 0, 0, []), (31, 32, 0, 0, 0, 0, [])]
/-- LeaseQueue$Items.notDone()I -/
def zo91 : List (Nat × zO) := [(0, 9, 0, 0, 0, 0, []), (1, 5, 0, 1, 0, 0, []), (2, 9, 1, 0, 0, 0, []), (3, 5, 0, 2, 0, 0, []), (4, 1, 0, 2, 0, 0, []), (5, 3, 0, 0, 0, 0, []), (6, 21, 47, 0, 0, 59, []), (9, 20, 22, 31, 4, 0, []), (12, 3, 0, 0, 0, 0, []), (13, 21, 27, 0, 6, 73, []), (16, 1, 0, 2, 0, 0, []), (17, 23, 0, 0, 0, 0, []), (18, 9, 2, 0, 0, 0, []), (19, 20, 6, 25, 0, 0, []), (22, 17, 1, 1, 0, 0, []), (25, 17, 1, 2, 0, 0, []), (28, 18, (-24), 4, 0, 0, []), (31, 1, 0, 1, 0, 0, []), (32, 32, 0, 0, 0, 0, [])]
/-- LeaseQueue$Throttle.<init>()V -/
def zo92 : List (Nat × zO) := [(0, 3, 0, 0, 0, 0, []), (1, 70, 3, 0, 0, 0, [140, 49, 50]), (4, 3, 0, 0, 0, 0, []), (5, 10, 100, 0, 0, 0, []), (7, 72, 0, 0, 0, 0, [110]), (9, 75, 9, 1, 2, 145, []), (12, 33, 0, 0, 0, 0, [])]
/-- LeaseQueue$Throttle.note(I)V -/
def zo93 : List (Nat × zO) := [(0, 3, 0, 0, 0, 0, []), (1, 21, 9, 1, 2, 145, []), (4, 3, 0, 0, 0, 0, []), (5, 21, 15, 1, 4, 147, []), (8, 1, 0, 1, 0, 0, []), (9, 24, 0, 0, 0, 0, []), (10, 3, 0, 0, 0, 0, []), (11, 3, 0, 0, 0, 0, []), (12, 21, 15, 1, 4, 147, []), (15, 9, 1, 0, 0, 0, []), (16, 12, 0, 0, 0, 0, []), (17, 10, 100, 0, 0, 0, []), (19, 15, 0, 0, 0, 0, []), (20, 22, 15, 1, 4, 147, []), (23, 3, 0, 0, 0, 0, []), (24, 3, 0, 0, 0, 0, []), (25, 21, 19, 1, 3, 146, []), (28, 9, 1, 0, 0, 0, []), (29, 12, 0, 0, 0, 0, []), (30, 10, 100, 0, 0, 0, []), (32, 50, 22, 117, 2, 0, [457, 458, 42, 459]), (35, 22, 19, 1, 3, 146, []), (38, 33, 0, 0, 0, 0, [])]
/-- LeaseQueue$Throttle.unitsToWait(I)I -/
def zo94 : List (Nat × zO) := [(0, 3, 0, 0, 0, 0, []), (1, 21, 28, 1, 0, 141, []), (4, 19, 14, 18, 0, 0, []), (7, 3, 0, 0, 0, 0, []), (8, 21, 19, 1, 3, 146, []), (11, 3, 0, 0, 0, 0, []), (12, 21, 28, 1, 0, 141, []), (15, 20, 5, 20, 3, 0, []), (18, 9, 0, 0, 0, 0, []), (19, 32, 0, 0, 0, 0, []), (20, 3, 0, 0, 0, 0, []), (21, 21, 15, 1, 4, 147, []), (24, 3, 0, 0, 0, 0, []), (25, 21, 28, 1, 0, 141, []), (28, 13, 0, 0, 0, 0, []), (29, 10, 100, 0, 0, 0, []), (31, 50, 31, 115, 2, 0, [415, 416, 42, 417]), (34, 5, 0, 2, 0, 0, []), (35, 9, 0, 0, 0, 0, []), (36, 3, 0, 0, 0, 0, []), (37, 21, 9, 1, 2, 145, []), (40, 1, 0, 2, 0, 0, []), (41, 23, 0, 0, 0, 0, []), (42, 3, 0, 0, 0, 0, []), (43, 21, 34, 1, 1, 143, []), (46, 12, 0, 0, 0, 0, []), (47, 1, 0, 1, 0, 0, []), (48, 13, 0, 0, 0, 0, []), (49, 50, 37, 116, 2, 0, [418, 419, 42, 420]), (52, 32, 0, 0, 0, 0, [])]
/-- LeaseQueue$Written.<init>()V -/
def zo95 : List (Nat × zO) := [(0, 3, 0, 0, 0, 0, []), (1, 70, 3, 0, 0, 0, [116, 49, 50]), (4, 3, 0, 0, 0, 0, []), (5, 11, 401, 0, 0, 0, []), (8, 72, 0, 0, 0, 0, [110]), (10, 75, 9, 2, 2, 120, []), (13, 3, 0, 0, 0, 0, []), (14, 11, 401, 0, 0, 0, []), (17, 72, 0, 0, 0, 0, [110]), (19, 75, 15, 2, 3, 121, []), (22, 3, 0, 0, 0, 0, []), (23, 11, 401, 0, 0, 0, []), (26, 72, 0, 0, 0, 0, [110]), (28, 75, 18, 2, 4, 122, []), (31, 33, 0, 0, 0, 0, [])]
/-- LeaseQueue$Written.keep(LLeaseQueue$Items;I)V -/
def zo96 : List (Nat × zO) := [(0, 3, 0, 0, 0, 0, []), (1, 3, 0, 1, 0, 0, []), (2, 21, 21, 0, 0, 60, []), (5, 22, 27, 2, 0, 117, []), (8, 3, 0, 0, 0, 0, []), (9, 1, 0, 2, 0, 0, []), (10, 22, 28, 2, 1, 118, []), (13, 3, 0, 1, 0, 0, []), (14, 21, 31, 0, 3, 67, []), (17, 9, 0, 0, 0, 0, []), (18, 3, 0, 0, 0, 0, []), (19, 21, 9, 2, 2, 120, []), (22, 9, 0, 0, 0, 0, []), (23, 3, 0, 0, 0, 0, []), (24, 21, 27, 2, 0, 117, []), (27, 9, 1, 0, 0, 0, []), (28, 12, 0, 0, 0, 0, []), (29, 38, 32, 0, 0, 0, [215, 217, 216, 40]), (32, 3, 0, 1, 0, 0, []), (33, 21, 38, 0, 6, 74, []), (36, 9, 0, 0, 0, 0, []), (37, 3, 0, 0, 0, 0, []), (38, 21, 15, 2, 3, 121, []), (41, 9, 0, 0, 0, 0, []), (42, 3, 0, 0, 0, 0, []), (43, 21, 27, 2, 0, 117, []), (46, 9, 1, 0, 0, 0, []), (47, 12, 0, 0, 0, 0, []), (48, 38, 32, 0, 0, 0, [215, 217, 216, 40]), (51, 3, 0, 1, 0, 0, []), (52, 21, 39, 0, 9, 81, []), (55, 9, 0, 0, 0, 0, []), (56, 3, 0, 0, 0, 0, []), (57, 21, 18, 2, 4, 122, []), (60, 9, 0, 0, 0, 0, []), (61, 3, 0, 0, 0, 0, []), (62, 21, 27, 2, 0, 117, []), (65, 9, 1, 0, 0, 0, []), (66, 12, 0, 0, 0, 0, []), (67, 38, 32, 0, 0, 0, [215, 217, 216, 40]), (70, 33, 0, 0, 0, 0, [])]
/-- LeaseQueue$Written.bringBack(LLeaseQueue$Items;)V -/
def zo97 : List (Nat × zO) := [(0, 3, 0, 1, 0, 0, []), (1, 3, 0, 0, 0, 0, []), (2, 21, 27, 2, 0, 117, []), (5, 22, 21, 0, 0, 60, []), (8, 9, 1, 0, 0, 0, []), (9, 5, 0, 2, 0, 0, []), (10, 1, 0, 2, 0, 0, []), (11, 3, 0, 0, 0, 0, []), (12, 21, 27, 2, 0, 117, []), (15, 20, 58, 73, 4, 0, []), (18, 3, 0, 1, 0, 0, []), (19, 21, 31, 0, 3, 67, []), (22, 1, 0, 2, 0, 0, []), (23, 3, 0, 0, 0, 0, []), (24, 21, 9, 2, 2, 120, []), (27, 1, 0, 2, 0, 0, []), (28, 23, 0, 0, 0, 0, []), (29, 24, 0, 0, 0, 0, []), (30, 3, 0, 1, 0, 0, []), (31, 21, 39, 0, 9, 81, []), (34, 1, 0, 2, 0, 0, []), (35, 3, 0, 0, 0, 0, []), (36, 21, 18, 2, 4, 122, []), (39, 1, 0, 2, 0, 0, []), (40, 23, 0, 0, 0, 0, []), (41, 24, 0, 0, 0, 0, []), (42, 3, 0, 1, 0, 0, []), (43, 1, 0, 2, 0, 0, []), (44, 3, 0, 0, 0, 0, []), (45, 21, 15, 2, 3, 121, []), (48, 1, 0, 2, 0, 0, []), (49, 23, 0, 0, 0, 0, []), (50, 9, 1, 0, 0, 0, []), (51, 20, 7, 58, 1, 0, []), (54, 9, 0, 0, 0, 0, []), (55, 18, 9, 64, 0, 0, []), (58, 3, 0, 0, 0, 0, []), (59, 21, 15, 2, 3, 121, []), (62, 1, 0, 2, 0, 0, []), (63, 23, 0, 0, 0, 0, []), (64, 51, 40, 81, 2, 0, [226, 227, 228, 30, 229]), (67, 17, 1, 2, 0, 0, []), (70, 18, (-60), 10, 0, 0, []), (73, 33, 0, 0, 0, 0, [])]
/-- LeaseQueueLaw.push(LLeaseQueue;IIIII[J)I -/
def zo98 : List (Nat × zO) := [(0, 4, 0, 6, 0, 0, []), (2, 9, 0, 0, 0, 0, []), (3, 3, 0, 0, 0, 0, []), (4, 1, 0, 1, 0, 0, []), (5, 1, 0, 2, 0, 0, []), (6, 1, 0, 3, 0, 0, []), (7, 2, 0, 4, 0, 0, []), (9, 2, 0, 5, 0, 0, []), (11, 51, 7, 1, 5, 0, [239, 240, 241, 29, 242]), (14, 27, 0, 0, 0, 0, []), (15, 26, 0, 0, 0, 0, []), (16, 18, 11, 27, 0, 0, []), (19, 8, 0, 7, 0, 0, []), (21, 9, 1, 0, 0, 0, []), (22, 32, 0, 0, 0, 0, []), (23, 8, 0, 7, 0, 0, []), (25, 9, 2, 0, 0, 0, []), (26, 32, 0, 0, 0, 0, []), (27, 9, 0, 0, 0, 0, []), (28, 32, 0, 0, 0, 0, [])]
/-- LeaseQueueLaw.await(LLeaseQueue;I[J)I -/
def zo99 : List (Nat × zO) := [(0, 3, 0, 2, 0, 0, []), (1, 9, 0, 0, 0, 0, []), (2, 3, 0, 0, 0, 0, []), (3, 1, 0, 1, 0, 0, []), (4, 51, 17, 2, 1, 0, [357, 358, 359, 29, 360]), (7, 27, 0, 0, 0, 0, []), (8, 26, 0, 0, 0, 0, []), (9, 18, 9, 18, 0, 0, []), (12, 7, 0, 3, 0, 0, []), (13, 9, 1, 0, 0, 0, []), (14, 32, 0, 0, 0, 0, []), (15, 7, 0, 3, 0, 0, []), (16, 9, 2, 0, 0, 0, []), (17, 32, 0, 0, 0, 0, []), (18, 9, 0, 0, 0, 0, []), (19, 32, 0, 0, 0, 0, [])]
/-- LeaseQueueLaw.take(LLeaseQueue;III[J)I -/
def zo100 : List (Nat × zO) := [(0, 4, 0, 4, 0, 0, []), (2, 9, 0, 0, 0, 0, []), (3, 3, 0, 0, 0, 0, []), (4, 1, 0, 1, 0, 0, []), (5, 1, 0, 2, 0, 0, []), (6, 1, 0, 3, 0, 0, []), (7, 51, 23, 3, 3, 0, [388, 389, 390, 29, 391]), (10, 27, 0, 0, 0, 0, []), (11, 26, 0, 0, 0, 0, []), (12, 18, 7, 19, 0, 0, []), (15, 8, 0, 5, 0, 0, []), (17, 9, 1, 0, 0, 0, []), (18, 32, 0, 0, 0, 0, []), (19, 9, 0, 0, 0, 0, []), (20, 32, 0, 0, 0, 0, [])]
/-- LeaseQueueLaw.takeAny(LLeaseQueue;II[J)I -/
def zo101 : List (Nat × zO) := [(0, 3, 0, 3, 0, 0, []), (1, 9, 0, 0, 0, 0, []), (2, 3, 0, 0, 0, 0, []), (3, 1, 0, 1, 0, 0, []), (4, 1, 0, 2, 0, 0, []), (5, 51, 27, 4, 2, 0, [463, 464, 465, 29, 466]), (8, 27, 0, 0, 0, 0, []), (9, 26, 0, 0, 0, 0, []), (10, 18, 7, 17, 0, 0, []), (13, 8, 0, 4, 0, 0, []), (15, 9, 1, 0, 0, 0, []), (16, 32, 0, 0, 0, 0, []), (17, 9, 0, 0, 0, 0, []), (18, 32, 0, 0, 0, 0, [])]
/-- LeaseQueueLaw.done(LLeaseQueue;II[J)I -/
def zo102 : List (Nat × zO) := [(0, 3, 0, 3, 0, 0, []), (1, 9, 0, 0, 0, 0, []), (2, 3, 0, 0, 0, 0, []), (3, 1, 0, 1, 0, 0, []), (4, 1, 0, 2, 0, 0, []), (5, 51, 31, 5, 2, 0, [471, 472, 473, 29, 474]), (8, 19, 7, 15, 0, 0, []), (11, 28, 1, 0, 0, 0, []), (12, 18, 4, 16, 0, 0, []), (15, 28, 0, 0, 0, 0, []), (16, 26, 0, 0, 0, 0, []), (17, 18, 7, 24, 0, 0, []), (20, 8, 0, 4, 0, 0, []), (22, 9, 1, 0, 0, 0, []), (23, 32, 0, 0, 0, 0, []), (24, 9, 0, 0, 0, 0, []), (25, 32, 0, 0, 0, 0, [])]
/-- LeaseQueueLaw.fail(LLeaseQueue;III[J)I -/
def zo103 : List (Nat × zO) := [(0, 4, 0, 4, 0, 0, []), (2, 9, 0, 0, 0, 0, []), (3, 3, 0, 0, 0, 0, []), (4, 1, 0, 1, 0, 0, []), (5, 1, 0, 2, 0, 0, []), (6, 1, 0, 3, 0, 0, []), (7, 51, 35, 6, 3, 0, [480, 481, 482, 29, 483]), (10, 19, 7, 17, 0, 0, []), (13, 28, 1, 0, 0, 0, []), (14, 18, 4, 18, 0, 0, []), (17, 28, 0, 0, 0, 0, []), (18, 26, 0, 0, 0, 0, []), (19, 18, 7, 26, 0, 0, []), (22, 8, 0, 5, 0, 0, []), (24, 9, 1, 0, 0, 0, []), (25, 32, 0, 0, 0, 0, []), (26, 9, 0, 0, 0, 0, []), (27, 32, 0, 0, 0, 0, [])]
/-- LeaseQueueLaw.extend(LLeaseQueue;III[J)I -/
def zo104 : List (Nat × zO) := [(0, 4, 0, 4, 0, 0, []), (2, 9, 0, 0, 0, 0, []), (3, 3, 0, 0, 0, 0, []), (4, 1, 0, 1, 0, 0, []), (5, 1, 0, 2, 0, 0, []), (6, 1, 0, 3, 0, 0, []), (7, 51, 39, 7, 3, 0, [495, 496, 497, 29, 498]), (10, 19, 7, 17, 0, 0, []), (13, 28, 1, 0, 0, 0, []), (14, 18, 4, 18, 0, 0, []), (17, 28, 0, 0, 0, 0, []), (18, 26, 0, 0, 0, 0, []), (19, 18, 7, 26, 0, 0, []), (22, 8, 0, 5, 0, 0, []), (24, 9, 1, 0, 0, 0, []), (25, 32, 0, 0, 0, 0, []), (26, 9, 0, 0, 0, 0, []), (27, 32, 0, 0, 0, 0, [])]
/-- LeaseQueueLaw.chance(LLeaseQueue;I[J)I -/
def zo105 : List (Nat × zO) := [(0, 3, 0, 2, 0, 0, []), (1, 9, 0, 0, 0, 0, []), (2, 3, 0, 0, 0, 0, []), (3, 1, 0, 1, 0, 0, []), (4, 51, 42, 8, 1, 0, [502, 503, 504, 29, 505]), (7, 27, 0, 0, 0, 0, []), (8, 26, 0, 0, 0, 0, []), (9, 18, 6, 15, 0, 0, []), (12, 7, 0, 3, 0, 0, []), (13, 9, 1, 0, 0, 0, []), (14, 32, 0, 0, 0, 0, []), (15, 9, 0, 0, 0, 0, []), (16, 32, 0, 0, 0, 0, [])]
/-- LeaseQueueLaw.pass(LLeaseQueue;I[J)I -/
def zo106 : List (Nat × zO) := [(0, 3, 0, 2, 0, 0, []), (1, 9, 0, 0, 0, 0, []), (2, 3, 0, 0, 0, 0, []), (3, 1, 0, 1, 0, 0, []), (4, 51, 45, 9, 1, 0, [510, 511, 512, 29, 513]), (7, 27, 0, 0, 0, 0, []), (8, 26, 0, 0, 0, 0, []), (9, 18, 6, 15, 0, 0, []), (12, 7, 0, 3, 0, 0, []), (13, 9, 1, 0, 0, 0, []), (14, 32, 0, 0, 0, 0, []), (15, 9, 0, 0, 0, 0, []), (16, 32, 0, 0, 0, 0, [])]
/-- LeaseQueueLaw.limit(LLeaseQueue;II[J)I -/
def zo107 : List (Nat × zO) := [(0, 3, 0, 3, 0, 0, []), (1, 9, 0, 0, 0, 0, []), (2, 3, 0, 0, 0, 0, []), (3, 1, 0, 1, 0, 0, []), (4, 1, 0, 2, 0, 0, []), (5, 51, 48, 13, 2, 0, [517, 518, 519, 29, 520]), (8, 27, 0, 0, 0, 0, []), (9, 26, 0, 0, 0, 0, []), (10, 18, 7, 17, 0, 0, []), (13, 8, 0, 4, 0, 0, []), (15, 9, 1, 0, 0, 0, []), (16, 32, 0, 0, 0, 0, []), (17, 9, 0, 0, 0, 0, []), (18, 32, 0, 0, 0, 0, [])]
/-- LeaseQueueLaw.rate(LLeaseQueue;III)I -/
def zo108 : List (Nat × zO) := [(0, 3, 0, 0, 0, 0, []), (1, 1, 0, 1, 0, 0, []), (2, 1, 0, 2, 0, 0, []), (3, 1, 0, 3, 0, 0, []), (4, 51, 51, 14, 3, 0, [524, 525, 526, 29, 527]), (7, 18, 7, 14, 0, 0, []), (10, 8, 0, 4, 0, 0, []), (12, 9, 1, 0, 0, 0, []), (13, 32, 0, 0, 0, 0, []), (14, 9, 0, 0, 0, 0, []), (15, 32, 0, 0, 0, 0, [])]
/-- LeaseQueueLaw.tries(LLeaseQueue;II[J)I -/
def zo109 : List (Nat × zO) := [(0, 3, 0, 3, 0, 0, []), (1, 9, 0, 0, 0, 0, []), (2, 3, 0, 0, 0, 0, []), (3, 1, 0, 1, 0, 0, []), (4, 1, 0, 2, 0, 0, []), (5, 51, 55, 15, 2, 0, [531, 532, 533, 29, 534]), (8, 27, 0, 0, 0, 0, []), (9, 26, 0, 0, 0, 0, []), (10, 18, 7, 17, 0, 0, []), (13, 8, 0, 4, 0, 0, []), (15, 9, 1, 0, 0, 0, []), (16, 32, 0, 0, 0, 0, []), (17, 9, 0, 0, 0, 0, []), (18, 32, 0, 0, 0, 0, [])]
/-- LeaseQueueLaw.about(LLeaseQueue;II[J)I -/
def zo110 : List (Nat × zO) := [(0, 3, 0, 3, 0, 0, []), (1, 9, 0, 0, 0, 0, []), (2, 3, 0, 0, 0, 0, []), (3, 1, 0, 1, 0, 0, []), (4, 1, 0, 2, 0, 0, []), (5, 51, 58, 16, 2, 0, [538, 539, 540, 29, 541]), (8, 27, 0, 0, 0, 0, []), (9, 26, 0, 0, 0, 0, []), (10, 18, 7, 17, 0, 0, []), (13, 8, 0, 4, 0, 0, []), (15, 9, 1, 0, 0, 0, []), (16, 32, 0, 0, 0, 0, []), (17, 9, 0, 0, 0, 0, []), (18, 32, 0, 0, 0, 0, [])]
/-- LeaseQueueLaw.count(LLeaseQueue;II[J)I -/
def zo111 : List (Nat × zO) := [(0, 3, 0, 3, 0, 0, []), (1, 9, 0, 0, 0, 0, []), (2, 3, 0, 0, 0, 0, []), (3, 1, 0, 1, 0, 0, []), (4, 1, 0, 2, 0, 0, []), (5, 51, 61, 17, 2, 0, [546, 547, 548, 29, 549]), (8, 27, 0, 0, 0, 0, []), (9, 26, 0, 0, 0, 0, []), (10, 18, 7, 17, 0, 0, []), (13, 8, 0, 4, 0, 0, []), (15, 9, 1, 0, 0, 0, []), (16, 32, 0, 0, 0, 0, []), (17, 9, 0, 0, 0, 0, []), (18, 32, 0, 0, 0, 0, [])]
/-- LeaseQueueLaw.peek(LLeaseQueue;II[J)I -/
def zo112 : List (Nat × zO) := [(0, 3, 0, 3, 0, 0, []), (1, 9, 0, 0, 0, 0, []), (2, 3, 0, 0, 0, 0, []), (3, 1, 0, 1, 0, 0, []), (4, 1, 0, 2, 0, 0, []), (5, 51, 64, 18, 2, 0, [554, 555, 556, 29, 557]), (8, 27, 0, 0, 0, 0, []), (9, 26, 0, 0, 0, 0, []), (10, 18, 7, 17, 0, 0, []), (13, 8, 0, 4, 0, 0, []), (15, 9, 1, 0, 0, 0, []), (16, 32, 0, 0, 0, 0, []), (17, 9, 0, 0, 0, 0, []), (18, 32, 0, 0, 0, 0, [])]
/-- LeaseQueueLaw.next(LLeaseQueue;I[J)I -/
def zo113 : List (Nat × zO) := [(0, 3, 0, 2, 0, 0, []), (1, 9, 0, 0, 0, 0, []), (2, 3, 0, 0, 0, 0, []), (3, 1, 0, 1, 0, 0, []), (4, 51, 67, 19, 1, 0, [562, 563, 564, 29, 565]), (7, 27, 0, 0, 0, 0, []), (8, 26, 0, 0, 0, 0, []), (9, 18, 6, 15, 0, 0, []), (12, 7, 0, 3, 0, 0, []), (13, 9, 1, 0, 0, 0, []), (14, 32, 0, 0, 0, 0, []), (15, 9, 0, 0, 0, 0, []), (16, 32, 0, 0, 0, 0, [])]
/-- LeaseQueueLaw.total(LLeaseQueue;I[J)I -/
def zo114 : List (Nat × zO) := [(0, 3, 0, 2, 0, 0, []), (1, 9, 0, 0, 0, 0, []), (2, 3, 0, 0, 0, 0, []), (3, 1, 0, 1, 0, 0, []), (4, 51, 70, 20, 1, 0, [574, 575, 576, 29, 577]), (7, 27, 0, 0, 0, 0, []), (8, 26, 0, 0, 0, 0, []), (9, 18, 6, 15, 0, 0, []), (12, 7, 0, 3, 0, 0, []), (13, 9, 1, 0, 0, 0, []), (14, 32, 0, 0, 0, 0, []), (15, 9, 0, 0, 0, 0, []), (16, 32, 0, 0, 0, 0, [])]
/-- java/lang/Math.floorMod(II)I -/
def zo115 : List (Nat × zO) := [(0, 1, 0, 0, 0, 0, []), (1, 1, 0, 1, 0, 0, []), (2, 15, 0, 0, 0, 0, []), (3, 5, 0, 2, 0, 0, []), (4, 1, 0, 0, 0, 0, []), (5, 1, 0, 1, 0, 0, []), (6, 42, 0, 0, 0, 0, []), (7, 19, 11, 18, 3, 0, []), (10, 1, 0, 2, 0, 0, []), (11, 19, 7, 18, 0, 0, []), (14, 1, 0, 2, 0, 0, []), (15, 1, 0, 1, 0, 0, []), (16, 12, 0, 0, 0, 0, []), (17, 32, 0, 0, 0, 0, []), (18, 1, 0, 2, 0, 0, []), (19, 32, 0, 0, 0, 0, [])]
/-- java/lang/Math.max(II)I -/
def zo116 : List (Nat × zO) := [(0, 1, 0, 0, 0, 0, []), (1, 1, 0, 1, 0, 0, []), (2, 20, 7, 9, 2, 0, []), (5, 1, 0, 0, 0, 0, []), (6, 18, 4, 10, 0, 0, []), (9, 1, 0, 1, 0, 0, []), (10, 32, 0, 0, 0, 0, [])]
/-- java/lang/Math.min(II)I -/
def zo117 : List (Nat × zO) := [(0, 1, 0, 0, 0, 0, []), (1, 1, 0, 1, 0, 0, []), (2, 20, 7, 9, 4, 0, []), (5, 1, 0, 0, 0, 0, []), (6, 18, 4, 10, 0, 0, []), (9, 1, 0, 1, 0, 0, []), (10, 32, 0, 0, 0, 0, [])]
/-- java/util/Arrays.fill([II)V -/
def zo118 : List (Nat × zO) := [(0, 9, 0, 0, 0, 0, []), (1, 5, 0, 2, 0, 0, []), (2, 3, 0, 0, 0, 0, []), (3, 77, 0, 0, 0, 0, []), (4, 5, 0, 3, 0, 0, []), (5, 1, 0, 2, 0, 0, []), (6, 1, 0, 3, 0, 0, []), (7, 20, 13, 20, 3, 0, []), (10, 3, 0, 0, 0, 0, []), (11, 1, 0, 2, 0, 0, []), (12, 1, 0, 1, 0, 0, []), (13, 24, 0, 0, 0, 0, []), (14, 17, 1, 2, 0, 0, []), (17, 18, (-12), 5, 0, 0, []), (20, 33, 0, 0, 0, 0, [])]
/-- LeaseQueueLaw.law([I)Z -/
def zo119 : List (Nat × zO) := [(0, 71, 8, 3, 12, 0, [43, 44, 29]), (3, 29, 0, 0, 0, 0, []), (4, 78, 73, 0, 0, 0, [45, 46, 29, 47]), (7, 7, 0, 1, 0, 0, []), (8, 71, 74, 4, 19, 0, [578, 579, 34]), (11, 29, 0, 0, 0, 0, []), (12, 78, 76, 35, 0, 0, [580, 581, 34, 582]), (15, 7, 0, 2, 0, 0, []), (16, 9, 1, 0, 0, 0, []), (17, 72, 0, 1, 0, 0, [803]), (19, 7, 0, 3, 0, 0, []), (20, 9, 0, 0, 0, 0, []), (21, 6, 0, 4, 0, 0, []), (23, 2, 0, 4, 0, 0, []), (25, 3, 0, 0, 0, 0, []), (26, 43, 0, 0, 0, 0, []), (27, 10, 6, 0, 0, 0, []), (29, 13, 0, 0, 0, 0, []), (30, 20, 908, 938, 4, 0, []), (33, 3, 0, 0, 0, 0, []), (34, 2, 0, 4, 0, 0, []), (36, 23, 0, 0, 0, 0, []), (37, 10, 31, 0, 0, 0, []), (39, 44, 0, 0, 0, 0, []), (40, 37, 0, 932, 20, 96, [136, 212, 240, 292, 332, 372, 424, 476, 504, 532, 545, 558, 599, 639, 688, 756, 796, 836, 876, 904]), (136, 3, 0, 1, 0, 0, []), (137, 3, 0, 0, 0, 0, []), (138, 2, 0, 4, 0, 0, []), (140, 9, 1, 0, 0, 0, []), (141, 12, 0, 0, 0, 0, []), (142, 23, 0, 0, 0, 0, []), (143, 3, 0, 0, 0, 0, []), (144, 2, 0, 4, 0, 0, []), (146, 9, 2, 0, 0, 0, []), (147, 12, 0, 0, 0, 0, []), (148, 23, 0, 0, 0, 0, []), (149, 3, 0, 0, 0, 0, []), (150, 2, 0, 4, 0, 0, []), (152, 9, 3, 0, 0, 0, []), (153, 12, 0, 0, 0, 0, []), (154, 23, 0, 0, 0, 0, []), (155, 3, 0, 0, 0, 0, []), (156, 2, 0, 4, 0, 0, []), (158, 9, 4, 0, 0, 0, []), (159, 12, 0, 0, 0, 0, []), (160, 23, 0, 0, 0, 0, []), (161, 3, 0, 0, 0, 0, []), (162, 2, 0, 4, 0, 0, []), (164, 9, 5, 0, 0, 0, []), (165, 12, 0, 0, 0, 0, []), (166, 23, 0, 0, 0, 0, []), (167, 3, 0, 3, 0, 0, []), (168, 50, 77, 98, 7, 0, [234, 235, 28, 236]), (171, 6, 0, 5, 0, 0, []), (173, 3, 0, 2, 0, 0, []), (174, 3, 0, 0, 0, 0, []), (175, 2, 0, 4, 0, 0, []), (177, 9, 1, 0, 0, 0, []), (178, 12, 0, 0, 0, 0, []), (179, 23, 0, 0, 0, 0, []), (180, 3, 0, 0, 0, 0, []), (181, 2, 0, 4, 0, 0, []), (183, 9, 2, 0, 0, 0, []), (184, 12, 0, 0, 0, 0, []), (185, 23, 0, 0, 0, 0, []), (186, 3, 0, 0, 0, 0, []), (187, 2, 0, 4, 0, 0, []), (189, 9, 3, 0, 0, 0, []), (190, 12, 0, 0, 0, 0, []), (191, 23, 0, 0, 0, 0, []), (192, 3, 0, 0, 0, 0, []), (193, 2, 0, 4, 0, 0, []), (195, 9, 4, 0, 0, 0, []), (196, 12, 0, 0, 0, 0, []), (197, 23, 0, 0, 0, 0, []), (198, 3, 0, 0, 0, 0, []), (199, 2, 0, 4, 0, 0, []), (201, 9, 5, 0, 0, 0, []), (202, 12, 0, 0, 0, 0, []), (203, 23, 0, 0, 0, 0, []), (204, 51, 82, 52, 5, 0, [646, 647, 648, 34, 649]), (207, 6, 0, 6, 0, 0, []), (209, 18, 723, 932, 0, 0, []), (212, 3, 0, 1, 0, 0, []), (213, 3, 0, 0, 0, 0, []), (214, 2, 0, 4, 0, 0, []), (216, 9, 1, 0, 0, 0, []), (217, 12, 0, 0, 0, 0, []), (218, 23, 0, 0, 0, 0, []), (219, 3, 0, 3, 0, 0, []), (220, 50, 83, 99, 3, 0, [353, 354, 28, 355]), (223, 6, 0, 5, 0, 0, []), (225, 3, 0, 2, 0, 0, []), (226, 3, 0, 0, 0, 0, []), (227, 2, 0, 4, 0, 0, []), (229, 9, 1, 0, 0, 0, []), (230, 12, 0, 0, 0, 0, []), (231, 23, 0, 0, 0, 0, []), (232, 51, 86, 53, 1, 0, [680, 681, 682, 34, 683]), (235, 6, 0, 6, 0, 0, []), (237, 18, 695, 932, 0, 0, []), (240, 3, 0, 1, 0, 0, []), (241, 3, 0, 0, 0, 0, []), (242, 2, 0, 4, 0, 0, []), (244, 9, 1, 0, 0, 0, []), (245, 12, 0, 0, 0, 0, []), (246, 23, 0, 0, 0, 0, []), (247, 3, 0, 0, 0, 0, []), (248, 2, 0, 4, 0, 0, []), (250, 9, 2, 0, 0, 0, []), (251, 12, 0, 0, 0, 0, []), (252, 23, 0, 0, 0, 0, []), (253, 3, 0, 0, 0, 0, []), (254, 2, 0, 4, 0, 0, []), (256, 9, 3, 0, 0, 0, []), (257, 12, 0, 0, 0, 0, []), (258, 23, 0, 0, 0, 0, []), (259, 3, 0, 3, 0, 0, []), (260, 50, 87, 100, 5, 0, [385, 386, 28, 387]), (263, 6, 0, 5, 0, 0, []), (265, 3, 0, 2, 0, 0, []), (266, 3, 0, 0, 0, 0, []), (267, 2, 0, 4, 0, 0, []), (269, 9, 1, 0, 0, 0, []), (270, 12, 0, 0, 0, 0, []), (271, 23, 0, 0, 0, 0, []), (272, 3, 0, 0, 0, 0, []), (273, 2, 0, 4, 0, 0, []), (275, 9, 2, 0, 0, 0, []), (276, 12, 0, 0, 0, 0, []), (277, 23, 0, 0, 0, 0, []), (278, 3, 0, 0, 0, 0, []), (279, 2, 0, 4, 0, 0, []), (281, 9, 3, 0, 0, 0, []), (282, 12, 0, 0, 0, 0, []), (283, 23, 0, 0, 0, 0, []), (284, 51, 90, 56, 3, 0, [688, 689, 690, 34, 691]), (287, 6, 0, 6, 0, 0, []), (289, 18, 643, 932, 0, 0, []), (292, 3, 0, 1, 0, 0, []), (293, 3, 0, 0, 0, 0, []), (294, 2, 0, 4, 0, 0, []), (296, 9, 1, 0, 0, 0, []), (297, 12, 0, 0, 0, 0, []), (298, 23, 0, 0, 0, 0, []), (299, 3, 0, 0, 0, 0, []), (300, 2, 0, 4, 0, 0, []), (302, 9, 2, 0, 0, 0, []), (303, 12, 0, 0, 0, 0, []), (304, 23, 0, 0, 0, 0, []), (305, 3, 0, 3, 0, 0, []), (306, 50, 91, 101, 4, 0, [460, 461, 28, 462]), (309, 6, 0, 5, 0, 0, []), (311, 3, 0, 2, 0, 0, []), (312, 3, 0, 0, 0, 0, []), (313, 2, 0, 4, 0, 0, []), (315, 9, 1, 0, 0, 0, []), (316, 12, 0, 0, 0, 0, []), (317, 23, 0, 0, 0, 0, []), (318, 3, 0, 0, 0, 0, []), (319, 2, 0, 4, 0, 0, []), (321, 9, 2, 0, 0, 0, []), (322, 12, 0, 0, 0, 0, []), (323, 23, 0, 0, 0, 0, []), (324, 51, 94, 57, 2, 0, [723, 724, 725, 34, 726]), (327, 6, 0, 6, 0, 0, []), (329, 18, 603, 932, 0, 0, []), (332, 3, 0, 1, 0, 0, []), (333, 3, 0, 0, 0, 0, []), (334, 2, 0, 4, 0, 0, []), (336, 9, 1, 0, 0, 0, []), (337, 12, 0, 0, 0, 0, []), (338, 23, 0, 0, 0, 0, []), (339, 3, 0, 0, 0, 0, []), (340, 2, 0, 4, 0, 0, []), (342, 9, 2, 0, 0, 0, []), (343, 12, 0, 0, 0, 0, []), (344, 23, 0, 0, 0, 0, []), (345, 3, 0, 3, 0, 0, []), (346, 50, 95, 102, 4, 0, [468, 469, 28, 470]), (349, 6, 0, 5, 0, 0, []), (351, 3, 0, 2, 0, 0, []), (352, 3, 0, 0, 0, 0, []), (353, 2, 0, 4, 0, 0, []), (355, 9, 1, 0, 0, 0, []), (356, 12, 0, 0, 0, 0, []), (357, 23, 0, 0, 0, 0, []), (358, 3, 0, 0, 0, 0, []), (359, 2, 0, 4, 0, 0, []), (361, 9, 2, 0, 0, 0, []), (362, 12, 0, 0, 0, 0, []), (363, 23, 0, 0, 0, 0, []), (364, 51, 97, 61, 2, 0, [727, 728, 729, 34, 730]), (367, 6, 0, 6, 0, 0, []), (369, 18, 563, 932, 0, 0, []), (372, 3, 0, 1, 0, 0, []), (373, 3, 0, 0, 0, 0, []), (374, 2, 0, 4, 0, 0, []), (376, 9, 1, 0, 0, 0, []), (377, 12, 0, 0, 0, 0, []), (378, 23, 0, 0, 0, 0, []), (379, 3, 0, 0, 0, 0, []), (380, 2, 0, 4, 0, 0, []), (382, 9, 2, 0, 0, 0, []), (383, 12, 0, 0, 0, 0, []), (384, 23, 0, 0, 0, 0, []), (385, 3, 0, 0, 0, 0, []), (386, 2, 0, 4, 0, 0, []), (388, 9, 3, 0, 0, 0, []), (389, 12, 0, 0, 0, 0, []), (390, 23, 0, 0, 0, 0, []), (391, 3, 0, 3, 0, 0, []), (392, 50, 98, 103, 5, 0, [477, 478, 28, 479]), (395, 6, 0, 5, 0, 0, []), (397, 3, 0, 2, 0, 0, []), (398, 3, 0, 0, 0, 0, []), (399, 2, 0, 4, 0, 0, []), (401, 9, 1, 0, 0, 0, []), (402, 12, 0, 0, 0, 0, []), (403, 23, 0, 0, 0, 0, []), (404, 3, 0, 0, 0, 0, []), (405, 2, 0, 4, 0, 0, []), (407, 9, 2, 0, 0, 0, []), (408, 12, 0, 0, 0, 0, []), (409, 23, 0, 0, 0, 0, []), (410, 3, 0, 0, 0, 0, []), (411, 2, 0, 4, 0, 0, []), (413, 9, 3, 0, 0, 0, []), (414, 12, 0, 0, 0, 0, []), (415, 23, 0, 0, 0, 0, []), (416, 51, 100, 62, 3, 0, [739, 740, 741, 34, 742]), (419, 6, 0, 6, 0, 0, []), (421, 18, 511, 932, 0, 0, []), (424, 3, 0, 1, 0, 0, []), (425, 3, 0, 0, 0, 0, []), (426, 2, 0, 4, 0, 0, []), (428, 9, 1, 0, 0, 0, []), (429, 12, 0, 0, 0, 0, []), (430, 23, 0, 0, 0, 0, []), (431, 3, 0, 0, 0, 0, []), (432, 2, 0, 4, 0, 0, []), (434, 9, 2, 0, 0, 0, []), (435, 12, 0, 0, 0, 0, []), (436, 23, 0, 0, 0, 0, []), (437, 3, 0, 0, 0, 0, []), (438, 2, 0, 4, 0, 0, []), (440, 9, 3, 0, 0, 0, []), (441, 12, 0, 0, 0, 0, []), (442, 23, 0, 0, 0, 0, []), (443, 3, 0, 3, 0, 0, []), (444, 50, 101, 104, 5, 0, [492, 493, 28, 494]), (447, 6, 0, 5, 0, 0, []), (449, 3, 0, 2, 0, 0, []), (450, 3, 0, 0, 0, 0, []), (451, 2, 0, 4, 0, 0, []), (453, 9, 1, 0, 0, 0, []), (454, 12, 0, 0, 0, 0, []), (455, 23, 0, 0, 0, 0, []), (456, 3, 0, 0, 0, 0, []), (457, 2, 0, 4, 0, 0, []), (459, 9, 2, 0, 0, 0, []), (460, 12, 0, 0, 0, 0, []), (461, 23, 0, 0, 0, 0, []), (462, 3, 0, 0, 0, 0, []), (463, 2, 0, 4, 0, 0, []), (465, 9, 3, 0, 0, 0, []), (466, 12, 0, 0, 0, 0, []), (467, 23, 0, 0, 0, 0, []), (468, 51, 103, 63, 3, 0, [747, 748, 749, 34, 750]), (471, 6, 0, 6, 0, 0, []), (473, 18, 459, 932, 0, 0, []), (476, 3, 0, 1, 0, 0, []), (477, 3, 0, 0, 0, 0, []), (478, 2, 0, 4, 0, 0, []), (480, 9, 1, 0, 0, 0, []), (481, 12, 0, 0, 0, 0, []), (482, 23, 0, 0, 0, 0, []), (483, 3, 0, 3, 0, 0, []), (484, 50, 104, 105, 3, 0, [499, 500, 28, 501]), (487, 6, 0, 5, 0, 0, []), (489, 3, 0, 2, 0, 0, []), (490, 3, 0, 0, 0, 0, []), (491, 2, 0, 4, 0, 0, []), (493, 9, 1, 0, 0, 0, []), (494, 12, 0, 0, 0, 0, []), (495, 23, 0, 0, 0, 0, []), (496, 51, 106, 64, 1, 0, [751, 752, 753, 34, 754]), (499, 6, 0, 6, 0, 0, []), (501, 18, 431, 932, 0, 0, []), (504, 3, 0, 1, 0, 0, []), (505, 3, 0, 0, 0, 0, []), (506, 2, 0, 4, 0, 0, []), (508, 9, 1, 0, 0, 0, []), (509, 12, 0, 0, 0, 0, []), (510, 23, 0, 0, 0, 0, []), (511, 3, 0, 3, 0, 0, []), (512, 50, 107, 106, 3, 0, [507, 508, 28, 509]), (515, 6, 0, 5, 0, 0, []), (517, 3, 0, 2, 0, 0, []), (518, 3, 0, 0, 0, 0, []), (519, 2, 0, 4, 0, 0, []), (521, 9, 1, 0, 0, 0, []), (522, 12, 0, 0, 0, 0, []), (523, 23, 0, 0, 0, 0, []), (524, 51, 109, 65, 1, 0, [755, 756, 757, 34, 758]), (527, 6, 0, 6, 0, 0, []), (529, 18, 403, 932, 0, 0, []), (532, 3, 0, 1, 0, 0, []), (533, 51, 110, 10, 0, 0, [199, 200, 201, 29, 202]), (536, 31, 0, 0, 0, 0, []), (537, 3, 0, 2, 0, 0, []), (538, 51, 114, 66, 0, 0, [759, 760, 761, 34, 762]), (541, 31, 0, 0, 0, 0, []), (542, 18, 390, 932, 0, 0, []), (545, 3, 0, 1, 0, 0, []), (546, 51, 115, 11, 0, 0, [218, 219, 220, 29, 221]), (549, 31, 0, 0, 0, 0, []), (550, 3, 0, 2, 0, 0, []), (551, 51, 118, 67, 0, 0, [763, 764, 765, 34, 766]), (554, 31, 0, 0, 0, 0, []), (555, 18, 377, 932, 0, 0, []), (558, 3, 0, 1, 0, 0, []), (559, 3, 0, 0, 0, 0, []), (560, 2, 0, 4, 0, 0, []), (562, 9, 1, 0, 0, 0, []), (563, 12, 0, 0, 0, 0, []), (564, 23, 0, 0, 0, 0, []), (565, 61, 7, 572, 0, 0, []), (568, 9, 1, 0, 0, 0, []), (569, 18, 4, 573, 0, 0, []), (572, 9, 0, 0, 0, 0, []), (573, 51, 119, 12, 1, 0, [230, 231, 232, 29, 233]), (576, 31, 0, 0, 0, 0, []), (577, 3, 0, 2, 0, 0, []), (578, 3, 0, 0, 0, 0, []), (579, 2, 0, 4, 0, 0, []), (581, 9, 1, 0, 0, 0, []), (582, 12, 0, 0, 0, 0, []), (583, 23, 0, 0, 0, 0, []), (584, 61, 7, 591, 0, 0, []), (587, 9, 1, 0, 0, 0, []), (588, 18, 4, 592, 0, 0, []), (591, 9, 0, 0, 0, 0, []), (592, 51, 123, 68, 1, 0, [767, 768, 769, 34, 770]), (595, 31, 0, 0, 0, 0, []), (596, 18, 336, 932, 0, 0, []), (599, 3, 0, 1, 0, 0, []), (600, 3, 0, 0, 0, 0, []), (601, 2, 0, 4, 0, 0, []), (603, 9, 1, 0, 0, 0, []), (604, 12, 0, 0, 0, 0, []), (605, 23, 0, 0, 0, 0, []), (606, 3, 0, 0, 0, 0, []), (607, 2, 0, 4, 0, 0, []), (609, 9, 2, 0, 0, 0, []), (610, 12, 0, 0, 0, 0, []), (611, 23, 0, 0, 0, 0, []), (612, 3, 0, 3, 0, 0, []), (613, 50, 124, 107, 4, 0, [514, 515, 28, 516]), (616, 6, 0, 5, 0, 0, []), (618, 3, 0, 2, 0, 0, []), (619, 3, 0, 0, 0, 0, []), (620, 2, 0, 4, 0, 0, []), (622, 9, 1, 0, 0, 0, []), (623, 12, 0, 0, 0, 0, []), (624, 23, 0, 0, 0, 0, []), (625, 3, 0, 0, 0, 0, []), (626, 2, 0, 4, 0, 0, []), (628, 9, 2, 0, 0, 0, []), (629, 12, 0, 0, 0, 0, []), (630, 23, 0, 0, 0, 0, []), (631, 51, 126, 69, 2, 0, [771, 772, 773, 34, 774]), (634, 6, 0, 6, 0, 0, []), (636, 18, 296, 932, 0, 0, []), (639, 3, 0, 1, 0, 0, []), (640, 3, 0, 0, 0, 0, []), (641, 2, 0, 4, 0, 0, []), (643, 9, 1, 0, 0, 0, []), (644, 12, 0, 0, 0, 0, []), (645, 23, 0, 0, 0, 0, []), (646, 3, 0, 0, 0, 0, []), (647, 2, 0, 4, 0, 0, []), (649, 9, 2, 0, 0, 0, []), (650, 12, 0, 0, 0, 0, []), (651, 23, 0, 0, 0, 0, []), (652, 3, 0, 0, 0, 0, []), (653, 2, 0, 4, 0, 0, []), (655, 9, 3, 0, 0, 0, []), (656, 12, 0, 0, 0, 0, []), (657, 23, 0, 0, 0, 0, []), (658, 50, 127, 108, 4, 0, [521, 522, 28, 523]), (661, 6, 0, 5, 0, 0, []), (663, 3, 0, 2, 0, 0, []), (664, 3, 0, 0, 0, 0, []), (665, 2, 0, 4, 0, 0, []), (667, 9, 1, 0, 0, 0, []), (668, 12, 0, 0, 0, 0, []), (669, 23, 0, 0, 0, 0, []), (670, 3, 0, 0, 0, 0, []), (671, 2, 0, 4, 0, 0, []), (673, 9, 2, 0, 0, 0, []), (674, 12, 0, 0, 0, 0, []), (675, 23, 0, 0, 0, 0, []), (676, 3, 0, 0, 0, 0, []), (677, 2, 0, 4, 0, 0, []), (679, 9, 3, 0, 0, 0, []), (680, 12, 0, 0, 0, 0, []), (681, 23, 0, 0, 0, 0, []), (682, 51, 130, 70, 3, 0, [775, 776, 777, 34, 778]), (685, 18, 247, 932, 0, 0, []), (688, 3, 0, 1, 0, 0, []), (689, 3, 0, 0, 0, 0, []), (690, 2, 0, 4, 0, 0, []), (692, 9, 1, 0, 0, 0, []), (693, 12, 0, 0, 0, 0, []), (694, 23, 0, 0, 0, 0, []), (695, 3, 0, 0, 0, 0, []), (696, 2, 0, 4, 0, 0, []), (698, 9, 2, 0, 0, 0, []), (699, 12, 0, 0, 0, 0, []), (700, 23, 0, 0, 0, 0, []), (701, 3, 0, 3, 0, 0, []), (702, 50, 131, 109, 4, 0, [528, 529, 28, 530]), (705, 6, 0, 5, 0, 0, []), (707, 3, 0, 2, 0, 0, []), (708, 3, 0, 0, 0, 0, []), (709, 2, 0, 4, 0, 0, []), (711, 9, 1, 0, 0, 0, []), (712, 12, 0, 0, 0, 0, []), (713, 23, 0, 0, 0, 0, []), (714, 3, 0, 0, 0, 0, []), (715, 2, 0, 4, 0, 0, []), (717, 9, 2, 0, 0, 0, []), (718, 12, 0, 0, 0, 0, []), (719, 23, 0, 0, 0, 0, []), (720, 51, 133, 71, 2, 0, [779, 780, 781, 34, 782]), (723, 6, 0, 6, 0, 0, []), (725, 3, 0, 2, 0, 0, []), (726, 51, 134, 36, 0, 0, [642, 643, 644, 34, 645]), (729, 2, 0, 5, 0, 0, []), (731, 20, 5, 736, 0, 0, []), (734, 9, 0, 0, 0, 0, []), (735, 32, 0, 0, 0, 0, []), (736, 2, 0, 5, 0, 0, []), (738, 19, 15, 753, 1, 0, []), (741, 3, 0, 3, 0, 0, []), (742, 9, 0, 0, 0, 0, []), (743, 40, 0, 0, 0, 0, []), (744, 2, 0, 6, 0, 0, []), (746, 27, 0, 0, 0, 0, []), (747, 41, 0, 0, 0, 0, []), (748, 61, 5, 753, 0, 0, []), (751, 9, 0, 0, 0, 0, []), (752, 32, 0, 0, 0, 0, []), (753, 18, 179, 932, 0, 0, []), (756, 3, 0, 1, 0, 0, []), (757, 3, 0, 0, 0, 0, []), (758, 2, 0, 4, 0, 0, []), (760, 9, 1, 0, 0, 0, []), (761, 12, 0, 0, 0, 0, []), (762, 23, 0, 0, 0, 0, []), (763, 3, 0, 0, 0, 0, []), (764, 2, 0, 4, 0, 0, []), (766, 9, 2, 0, 0, 0, []), (767, 12, 0, 0, 0, 0, []), (768, 23, 0, 0, 0, 0, []), (769, 3, 0, 3, 0, 0, []), (770, 50, 137, 110, 4, 0, [535, 536, 28, 537]), (773, 6, 0, 5, 0, 0, []), (775, 3, 0, 2, 0, 0, []), (776, 3, 0, 0, 0, 0, []), (777, 2, 0, 4, 0, 0, []), (779, 9, 1, 0, 0, 0, []), (780, 12, 0, 0, 0, 0, []), (781, 23, 0, 0, 0, 0, []), (782, 3, 0, 0, 0, 0, []), (783, 2, 0, 4, 0, 0, []), (785, 9, 2, 0, 0, 0, []), (786, 12, 0, 0, 0, 0, []), (787, 23, 0, 0, 0, 0, []), (788, 51, 139, 72, 2, 0, [783, 784, 785, 34, 786]), (791, 6, 0, 6, 0, 0, []), (793, 18, 139, 932, 0, 0, []), (796, 3, 0, 1, 0, 0, []), (797, 3, 0, 0, 0, 0, []), (798, 2, 0, 4, 0, 0, []), (800, 9, 1, 0, 0, 0, []), (801, 12, 0, 0, 0, 0, []), (802, 23, 0, 0, 0, 0, []), (803, 3, 0, 0, 0, 0, []), (804, 2, 0, 4, 0, 0, []), (806, 9, 2, 0, 0, 0, []), (807, 12, 0, 0, 0, 0, []), (808, 23, 0, 0, 0, 0, []), (809, 3, 0, 3, 0, 0, []), (810, 50, 140, 111, 4, 0, [543, 544, 28, 545]), (813, 6, 0, 5, 0, 0, []), (815, 3, 0, 2, 0, 0, []), (816, 3, 0, 0, 0, 0, []), (817, 2, 0, 4, 0, 0, []), (819, 9, 1, 0, 0, 0, []), (820, 12, 0, 0, 0, 0, []), (821, 23, 0, 0, 0, 0, []), (822, 3, 0, 0, 0, 0, []), (823, 2, 0, 4, 0, 0, []), (825, 9, 2, 0, 0, 0, []), (826, 12, 0, 0, 0, 0, []), (827, 23, 0, 0, 0, 0, []), (828, 51, 142, 73, 2, 0, [787, 788, 789, 34, 790]), (831, 6, 0, 6, 0, 0, []), (833, 18, 99, 932, 0, 0, []), (836, 3, 0, 1, 0, 0, []), (837, 3, 0, 0, 0, 0, []), (838, 2, 0, 4, 0, 0, []), (840, 9, 1, 0, 0, 0, []), (841, 12, 0, 0, 0, 0, []), (842, 23, 0, 0, 0, 0, []), (843, 3, 0, 0, 0, 0, []), (844, 2, 0, 4, 0, 0, []), (846, 9, 2, 0, 0, 0, []), (847, 12, 0, 0, 0, 0, []), (848, 23, 0, 0, 0, 0, []), (849, 3, 0, 3, 0, 0, []), (850, 50, 143, 112, 4, 0, [551, 552, 28, 553]), (853, 6, 0, 5, 0, 0, []), (855, 3, 0, 2, 0, 0, []), (856, 3, 0, 0, 0, 0, []), (857, 2, 0, 4, 0, 0, []), (859, 9, 1, 0, 0, 0, []), (860, 12, 0, 0, 0, 0, []), (861, 23, 0, 0, 0, 0, []), (862, 3, 0, 0, 0, 0, []), (863, 2, 0, 4, 0, 0, []), (865, 9, 2, 0, 0, 0, []), (866, 12, 0, 0, 0, 0, []), (867, 23, 0, 0, 0, 0, []), (868, 51, 145, 74, 2, 0, [791, 792, 793, 34, 794]), (871, 6, 0, 6, 0, 0, []), (873, 18, 59, 932, 0, 0, []), (876, 3, 0, 1, 0, 0, []), (877, 3, 0, 0, 0, 0, []), (878, 2, 0, 4, 0, 0, []), (880, 9, 1, 0, 0, 0, []), (881, 12, 0, 0, 0, 0, []), (882, 23, 0, 0, 0, 0, []), (883, 3, 0, 3, 0, 0, []), (884, 50, 146, 113, 3, 0, [559, 560, 28, 561]), (887, 6, 0, 5, 0, 0, []), (889, 3, 0, 2, 0, 0, []), (890, 3, 0, 0, 0, 0, []), (891, 2, 0, 4, 0, 0, []), (893, 9, 1, 0, 0, 0, []), (894, 12, 0, 0, 0, 0, []), (895, 23, 0, 0, 0, 0, []), (896, 51, 148, 75, 1, 0, [795, 796, 797, 34, 798]), (899, 6, 0, 6, 0, 0, []), (901, 18, 31, 932, 0, 0, []), (904, 3, 0, 1, 0, 0, []), (905, 3, 0, 0, 0, 0, []), (906, 2, 0, 4, 0, 0, []), (908, 9, 1, 0, 0, 0, []), (909, 12, 0, 0, 0, 0, []), (910, 23, 0, 0, 0, 0, []), (911, 3, 0, 3, 0, 0, []), (912, 50, 149, 114, 3, 0, [571, 572, 28, 573]), (915, 6, 0, 5, 0, 0, []), (917, 3, 0, 2, 0, 0, []), (918, 3, 0, 0, 0, 0, []), (919, 2, 0, 4, 0, 0, []), (921, 9, 1, 0, 0, 0, []), (922, 12, 0, 0, 0, 0, []), (923, 23, 0, 0, 0, 0, []), (924, 51, 151, 76, 1, 0, [799, 800, 801, 34, 802]), (927, 6, 0, 6, 0, 0, []), (929, 18, 3, 932, 0, 0, []), (932, 17, 6, 4, 0, 0, []), (935, 18, (-912), 23, 0, 0, []), (938, 9, 1, 0, 0, 0, []), (939, 32, 0, 0, 0, 0, [])]
def zopl (i : Nat) : List (Nat × zO) := match i with
  | 0 => zo0
  | 1 => zo1
  | 2 => zo2
  | 3 => zo3
  | 4 => zo4
  | 5 => zo5
  | 6 => zo6
  | 7 => zo7
  | 8 => zo8
  | 9 => zo9
  | 10 => zo10
  | 11 => zo11
  | 12 => zo12
  | 13 => zo13
  | 14 => zo14
  | 15 => zo15
  | 16 => zo16
  | 17 => zo17
  | 18 => zo18
  | 19 => zo19
  | 20 => zo20
  | 21 => zo21
  | 22 => zo22
  | 23 => zo23
  | 24 => zo24
  | 25 => zo25
  | 26 => zo26
  | 27 => zo27
  | 28 => zo28
  | 29 => zo29
  | 30 => zo30
  | 31 => zo31
  | 32 => zo32
  | 33 => zo33
  | 34 => zo34
  | 35 => zo35
  | 36 => zo36
  | 37 => zo37
  | 38 => zo38
  | 39 => zo39
  | 40 => zo40
  | 41 => zo41
  | 42 => zo42
  | 43 => zo43
  | 44 => zo44
  | 45 => zo45
  | 46 => zo46
  | 47 => zo47
  | 48 => zo48
  | 49 => zo49
  | 50 => zo50
  | 51 => zo51
  | 52 => zo52
  | 53 => zo53
  | 54 => zo54
  | 55 => zo55
  | 56 => zo56
  | 57 => zo57
  | 58 => zo58
  | 59 => zo59
  | 60 => zo60
  | 61 => zo61
  | 62 => zo62
  | 63 => zo63
  | 64 => zo64
  | 65 => zo65
  | 66 => zo66
  | 67 => zo67
  | 68 => zo68
  | 69 => zo69
  | 70 => zo70
  | 71 => zo71
  | 72 => zo72
  | 73 => zo73
  | 74 => zo74
  | 75 => zo75
  | 76 => zo76
  | 77 => zo77
  | 78 => zo78
  | 79 => zo79
  | 80 => zo80
  | 81 => zo81
  | 82 => zo82
  | 83 => zo83
  | 84 => zo84
  | 85 => zo85
  | 86 => zo86
  | 87 => zo87
  | 88 => zo88
  | 89 => zo89
  | 90 => zo90
  | 91 => zo91
  | 92 => zo92
  | 93 => zo93
  | 94 => zo94
  | 95 => zo95
  | 96 => zo96
  | 97 => zo97
  | 98 => zo98
  | 99 => zo99
  | 100 => zo100
  | 101 => zo101
  | 102 => zo102
  | 103 => zo103
  | 104 => zo104
  | 105 => zo105
  | 106 => zo106
  | 107 => zo107
  | 108 => zo108
  | 109 => zo109
  | 110 => zo110
  | 111 => zo111
  | 112 => zo112
  | 113 => zo113
  | 114 => zo114
  | 115 => zo115
  | 116 => zo116
  | 117 => zo117
  | 118 => zo118
  | 119 => zo119
  | _ => []
/-- the texts of the exceptions: their places in the pool of LeaseQueue -/
def zsi (x : Nat) : Nat := match x with
  | 0 => 210
  | 1 => 105
  | _ => 68
def ztx (x : Nat) : String := match x with
  | 0 => "no such queue, consumer or item, or a wrong number"
  | 1 => "an item waits for three at most"
  | _ => "there are 400 items"
/-- which of the three a row of the law's tables catches, by its place in the law's pool -/
def zcx (c : Nat) : Nat := match c with
  | 13 => 0
  | 15 => 2
  | 21 => 1
  | _ => 9
end
section
/-! ===== numbers that a walk knows by bounds alone: a number is k * (a variable) + c ===== -/
/-- (tag, k, v, c): tag 0 the int k * e v + c, tag 1 the long of it, tag 2 the cell v -/
abbrev zA : Type := Nat × Int × Nat × Int
abbrev zI : Type := Int × Int
/-- a cell: kind (0 object, 1 int array place by place, 2 int array by a rule, 3 array of cells, 4 long array), class or type, length, rule, places -/
abbrev zC : Type := Nat × Nat × Nat × Nat × List zA
/-- what is known: bounds of the variables; pairs (a, b) with b at most a; values read at a place of a ruled array -/
abbrev zS : Type := List zI × List (zA × zA) × List (Nat × Nat × zA)
abbrev zL : Type := List (Nat × zA)
def zv (e : Nat → Int) (a : zA) : Int := a.2.1 * e a.2.2.1 + a.2.2.2
def zwf (n : Nat) (a : zA) : Prop := a.2.1 = 0 ∨ a.2.2.1 < n
def zag (n : Nat) (e e' : Nat → Int) : Prop := ∀ v : Nat, v < n → e' v = e v
theorem zag_rf (n : Nat) (e : Nat → Int) : zag n e e := fun _ _ => rfl
theorem zag_tr {n n' : Nat} {e e1 e2 : Nat → Int} (h : zag n e e1) (h1 : zag n' e1 e2) (hn : n ≤ n') : zag n e e2 := fun v hv => (h1 v (by omega)).trans (h v hv)
theorem zwf_le {n n' : Nat} {a : zA} (h : zwf n a) (hn : n ≤ n') : zwf n' a := by
  rcases h with h | h
  · exact Or.inl h
  · exact Or.inr (by omega)
theorem zv_ag {n : Nat} {e e' : Nat → Int} {a : zA} (h : zag n e e') (hw : zwf n a) : zv e' a = zv e a := by
  unfold zv
  rcases hw with h0 | h0
  · rw [h0]; simp
  · rw [h _ h0]
def zrng (L : List zI) (a : zA) : Option zI :=
  if a.2.1 = 0 then some (a.2.2.2, a.2.2.2) else
  match L[a.2.2.1]? with
  | none => none
  | some i => if 0 < a.2.1 then some (a.2.1 * i.1 + a.2.2.2, a.2.1 * i.2 + a.2.2.2) else some (a.2.1 * i.2 + a.2.2.2, a.2.1 * i.1 + a.2.2.2)
def zS1 (e : Nat → Int) (L : List zI) : Prop := ∀ (v : Nat) (i : zI), L[v]? = some i → i.1 ≤ e v ∧ e v ≤ i.2
theorem zrng_ok {e : Nat → Int} {L : List zI} {a : zA} {i : zI} (h : zS1 e L) (hr : zrng L a = some i) : i.1 ≤ zv e a ∧ zv e a ≤ i.2 := by
  unfold zrng at hr
  by_cases h0 : a.2.1 = 0
  · rw [if_pos h0] at hr
    cases hr
    unfold zv
    rw [h0]
    simp
  · rw [if_neg h0] at hr
    cases hL : L[a.2.2.1]? with
    | none => rw [hL] at hr; cases hr
    | some j =>
      rw [hL] at hr
      obtain ⟨h1, h2⟩ := h _ _ hL
      unfold zv
      by_cases hp : 0 < a.2.1
      · simp only [if_pos hp] at hr
        cases hr
        have q1 := Int.mul_le_mul_of_nonneg_left h1 (Int.le_of_lt hp)
        have q2 := Int.mul_le_mul_of_nonneg_left h2 (Int.le_of_lt hp)
        exact ⟨by omega, by omega⟩
      · simp only [if_neg hp] at hr
        cases hr
        have hn : a.2.1 ≤ 0 := by omega
        have q1 := Int.mul_le_mul_of_nonpos_left hn h1
        have q2 := Int.mul_le_mul_of_nonpos_left hn h2
        exact ⟨by omega, by omega⟩
theorem zrng_wf {L : List zI} {a : zA} {i : zI} (hr : zrng L a = some i) : zwf L.length a := by
  unfold zrng at hr
  by_cases h0 : a.2.1 = 0
  · exact Or.inl h0
  · rw [if_neg h0] at hr
    cases hL : L[a.2.2.1]? with
    | none => rw [hL] at hr; cases hr
    | some j => exact Or.inr (List.getElem?_eq_some_iff.mp hL).1
def zin (L : List zI) (a : zA) (lo hi : Int) : Bool := match zrng L a with
  | some i => decide (lo ≤ i.1) && decide (i.2 ≤ hi)
  | none => false
theorem zin_ok {e : Nat → Int} {L : List zI} {a : zA} {lo hi : Int} (h : zS1 e L) (hz : zin L a lo hi = true) : lo ≤ zv e a ∧ zv e a ≤ hi := by
  unfold zin at hz
  cases hr : zrng L a with
  | none => rw [hr] at hz; cases hz
  | some i =>
    rw [hr] at hz
    simp only [Bool.and_eq_true, decide_eq_true_eq] at hz
    obtain ⟨h1, h2⟩ := zrng_ok h hr
    exact ⟨by omega, by omega⟩
theorem zin_wf {L : List zI} {a : zA} {lo hi : Int} (hz : zin L a lo hi = true) : zwf L.length a := by
  unfold zin at hz
  cases hr : zrng L a with
  | none => rw [hr] at hz; cases hz
  | some i => exact zrng_wf hr
def z32 (L : List zI) (a : zA) : Bool := zin L a (-2147483648) 2147483647
theorem z32_i {z : Int} (h : -2147483648 ≤ z ∧ z ≤ 2147483647) : (Int32.ofInt z).toInt = z := Int32.toInt_ofInt_of_le (by omega) (by omega)
theorem zi_rng (x : Int32) : -2147483648 ≤ x.toInt ∧ x.toInt ≤ 2147483647 := by
  have h1 := x.le_toInt
  have h2 := x.toInt_lt
  exact ⟨by omega, by omega⟩
/-- the number a is at most u -/
def zhi (L : List zI) (a : zA) (u : Int) : Option (List zI) :=
  if a.2.1 = 0 then (if a.2.2.2 ≤ u then some L else none)
  else if 1 ≤ a.2.1 then
    match L[a.2.2.1]? with
    | none => some L
    | some i => if i.2 ≤ (u - a.2.2.2) / a.2.1 then some L else if i.1 ≤ (u - a.2.2.2) / a.2.1 then some (L.set a.2.2.1 (i.1, (u - a.2.2.2) / a.2.1)) else none
  else some L
def zlo (L : List zI) (a : zA) (u : Int) : Option (List zI) :=
  if a.2.1 = 0 then (if u ≤ a.2.2.2 then some L else none)
  else if a.2.1 = 1 then
    match L[a.2.2.1]? with
    | none => some L
    | some i => if u - a.2.2.2 ≤ i.1 then some L else if u - a.2.2.2 ≤ i.2 then some (L.set a.2.2.1 (u - a.2.2.2, i.2)) else none
  else some L
theorem zS1_set {e : Nat → Int} {L : List zI} {v : Nat} {i : zI} (h : zS1 e L) (hi : i.1 ≤ e v ∧ e v ≤ i.2) : zS1 e (L.set v i) := by
  intro w j hw
  by_cases hvw : v = w
  · subst hvw
    by_cases hl : v < L.length
    · rw [List.getElem?_set_self hl] at hw
      cases hw
      exact hi
    · rw [List.set_eq_of_length_le (by omega)] at hw
      exact h _ _ hw
  · rw [List.getElem?_set_ne hvw] at hw
    exact h _ _ hw
theorem zhi_ok {e : Nat → Int} {L : List zI} {a : zA} {u : Int} (h : zS1 e L) (hu : zv e a ≤ u) : ∃ L', zhi L a u = some L' ∧ zS1 e L' ∧ L'.length = L.length := by
  unfold zhi
  unfold zv at hu
  by_cases h0 : a.2.1 = 0
  · rw [if_pos h0]
    rw [h0] at hu
    have : a.2.2.2 ≤ u := by simpa using hu
    exact ⟨L, if_pos this, h, rfl⟩
  · rw [if_neg h0]
    by_cases h1 : 1 ≤ a.2.1
    · rw [if_pos h1]
      have hu2 : e a.2.2.1 ≤ (u - a.2.2.2) / a.2.1 := Int.le_ediv_of_mul_le (by omega) (by rw [Int.mul_comm]; omega)
      cases hL : L[a.2.2.1]? with
      | none => exact ⟨L, rfl, h, rfl⟩
      | some i =>
        obtain ⟨q1, q2⟩ := h _ _ hL
        by_cases c1 : i.2 ≤ (u - a.2.2.2) / a.2.1
        · exact ⟨L, by simp only [if_pos c1], h, rfl⟩
        · have c2 : i.1 ≤ (u - a.2.2.2) / a.2.1 := Int.le_trans q1 hu2
          exact ⟨L.set a.2.2.1 (i.1, (u - a.2.2.2) / a.2.1), by simp only [if_neg c1, if_pos c2], zS1_set h ⟨q1, hu2⟩, by simp⟩
    · rw [if_neg h1]
      exact ⟨L, rfl, h, rfl⟩
theorem zlo_ok {e : Nat → Int} {L : List zI} {a : zA} {u : Int} (h : zS1 e L) (hu : u ≤ zv e a) : ∃ L', zlo L a u = some L' ∧ zS1 e L' ∧ L'.length = L.length := by
  unfold zlo
  unfold zv at hu
  by_cases h0 : a.2.1 = 0
  · rw [if_pos h0]
    rw [h0] at hu
    have : u ≤ a.2.2.2 := by simpa using hu
    exact ⟨L, if_pos this, h, rfl⟩
  · rw [if_neg h0]
    by_cases h1 : a.2.1 = 1
    · rw [if_pos h1]
      rw [h1, Int.one_mul] at hu
      cases hL : L[a.2.2.1]? with
      | none => exact ⟨L, rfl, h, rfl⟩
      | some i =>
        obtain ⟨q1, q2⟩ := h _ _ hL
        by_cases c1 : u - a.2.2.2 ≤ i.1
        · exact ⟨L, by simp only [if_pos c1], h, rfl⟩
        · have c2 : u - a.2.2.2 ≤ i.2 := by omega
          exact ⟨L.set a.2.2.1 (u - a.2.2.2, i.2), by simp only [if_neg c1, if_pos c2], zS1_set h ⟨by show u - a.2.2.2 ≤ _; omega, q2⟩, by simp⟩
    · rw [if_neg h1]
      exact ⟨L, rfl, h, rfl⟩
/-- a + d is at most b -/
def zr2 (L : List zI) (a b : zA) (d : Int) : Option (List zI) :=
  match zrng L a with
  | none => some L
  | some ia => match zrng L b with
    | none => some L
    | some ib => match zhi L a (ib.2 - d) with
      | none => none
      | some L1 => zlo L1 b (ia.1 + d)
theorem zr2_ok {e : Nat → Int} {L : List zI} {a b : zA} {d : Int} (h : zS1 e L) (hu : zv e a + d ≤ zv e b) : ∃ L', zr2 L a b d = some L' ∧ zS1 e L' ∧ L'.length = L.length := by
  unfold zr2
  cases ha : zrng L a with
  | none => exact ⟨L, rfl, h, rfl⟩
  | some ia =>
    cases hb : zrng L b with
    | none => exact ⟨L, rfl, h, rfl⟩
    | some ib =>
      obtain ⟨a1, a2⟩ := zrng_ok h ha
      obtain ⟨b1, b2⟩ := zrng_ok h hb
      obtain ⟨L1, e1, h1, l1⟩ := zhi_ok (a := a) (u := ib.2 - d) h (by omega)
      obtain ⟨L2, e2, h2, l2⟩ := zlo_ok (a := b) (u := ia.1 + d) h1 (by omega)
      exact ⟨L2, by simp only [e1]; exact e2, h2, l2.trans l1⟩
def zne (L : List zI) (a b : zA) : Option (List zI) := if a.2 = b.2 then none else
  match zrng L a with
  | none => some L
  | some ia => match zrng L b with
    | none => some L
    | some ib => if ib.1 = ib.2 then (if ia.1 = ib.1 then zlo L a (ia.1 + 1) else if ia.2 = ib.1 then zhi L a (ia.2 - 1) else some L) else some L
theorem zne_ok {e : Nat → Int} {L : List zI} {a b : zA} (h : zS1 e L) (hu : ¬ zv e a = zv e b) : ∃ L', zne L a b = some L' ∧ zS1 e L' ∧ L'.length = L.length := by
  unfold zne
  rw [if_neg (fun q => hu (by unfold zv; rw [q]))]
  cases ha : zrng L a with
  | none => exact ⟨L, rfl, h, rfl⟩
  | some ia =>
    cases hb : zrng L b with
    | none => exact ⟨L, rfl, h, rfl⟩
    | some ib =>
      obtain ⟨a1, a2⟩ := zrng_ok h ha
      obtain ⟨b1, b2⟩ := zrng_ok h hb
      by_cases c : ib.1 = ib.2
      · simp only [if_pos c]
        by_cases c1 : ia.1 = ib.1
        · simp only [if_pos c1]
          exact zlo_ok h (by omega)
        · simp only [if_neg c1]
          by_cases c2 : ia.2 = ib.1
          · simp only [if_pos c2]
            exact zhi_ok h (by omega)
          · simp only [if_neg c2]
            exact ⟨L, rfl, h, rfl⟩
      · simp only [if_neg c]
        exact ⟨L, rfl, h, rfl⟩
/-- comparisons: 0 eq, 1 ne, 2 lt, 3 ge, 4 gt, else le -/
def zrel (op : Nat) (x y : Int) : Prop := match op with
  | 0 => x = y
  | 1 => ¬ x = y
  | 2 => x < y
  | 3 => y ≤ x
  | 4 => y < x
  | _ => x ≤ y
def znot (op : Nat) : Nat := match op with
  | 0 => 1
  | 1 => 0
  | 2 => 3
  | 3 => 2
  | 4 => 5
  | _ => 4
def zref (op : Nat) (L : List zI) (a b : zA) : Option (List zI) := match op with
  | 0 => match zr2 L a b 0 with
    | none => none
    | some L1 => zr2 L1 b a 0
  | 1 => zne L a b
  | 2 => zr2 L a b 1
  | 3 => zr2 L b a 0
  | 4 => zr2 L b a 1
  | _ => zr2 L a b 0
theorem zref_ok {e : Nat → Int} {L : List zI} {a b : zA} (op : Nat) (h : zS1 e L) (hu : zrel op (zv e a) (zv e b)) : ∃ L', zref op L a b = some L' ∧ zS1 e L' ∧ L'.length = L.length := by
  match op, hu with
  | 0, hu =>
    have hu : zv e a = zv e b := hu
    obtain ⟨L1, e1, h1, l1⟩ := zr2_ok (a := a) (b := b) (d := 0) h (by omega)
    obtain ⟨L2, e2, h2, l2⟩ := zr2_ok (a := b) (b := a) (d := 0) h1 (by omega)
    exact ⟨L2, by simp only [zref, e1]; exact e2, h2, l2.trans l1⟩
  | 1, hu => exact zne_ok h hu
  | 2, hu =>
    have hu : zv e a < zv e b := hu
    exact zr2_ok h (by omega)
  | 3, hu =>
    have hu : zv e b ≤ zv e a := hu
    exact zr2_ok h (by omega)
  | 4, hu =>
    have hu : zv e b < zv e a := hu
    exact zr2_ok h (by omega)
  | n + 5, hu =>
    have hu : zv e a ≤ zv e b := hu
    exact zr2_ok h (by omega)
theorem znot_ok (op : Nat) {x y : Int} (h : ¬ zrel op x y) : zrel (znot op) x y := by
  match op, h with
  | 0, h => exact h
  | 1, h => exact Classical.not_not.mp h
  | 2, h => exact Int.not_lt.mp h
  | 3, h => exact Int.not_le.mp h
  | 4, h => exact Int.not_lt.mp h
  | n + 5, h => exact Int.not_le.mp h
def zfact (op : Nat) (a b : zA) : List (zA × zA) := if a.2.1 = 0 then [] else if b.2.1 = 0 then [] else match op with
  | 0 => []
  | 1 => []
  | 2 => [(b, a)]
  | 3 => [(a, b)]
  | 4 => [(a, b)]
  | _ => [(b, a)]
theorem zfact_ok {e : Nat → Int} (op : Nat) {a b : zA} (hu : zrel op (zv e a) (zv e b)) : ∀ q ∈ zfact op a b, (q = (a, b) ∨ q = (b, a)) ∧ zv e q.2 ≤ zv e q.1 := by
  intro q hq
  unfold zfact at hq
  by_cases h1 : a.2.1 = 0
  · rw [if_pos h1] at hq; cases hq
  · rw [if_neg h1] at hq
    by_cases h2 : b.2.1 = 0
    · rw [if_pos h2] at hq; cases hq
    · rw [if_neg h2] at hq
      match op, hu, hq with
      | 0, _, hq => cases hq
      | 1, _, hq => cases hq
      | 2, hu, hq =>
        have hu : zv e a < zv e b := hu
        rw [List.mem_singleton.mp hq]
        exact ⟨Or.inr rfl, by show zv e a ≤ zv e b; omega⟩
      | 3, hu, hq =>
        have hu : zv e b ≤ zv e a := hu
        rw [List.mem_singleton.mp hq]
        exact ⟨Or.inl rfl, hu⟩
      | 4, hu, hq =>
        have hu : zv e b < zv e a := hu
        rw [List.mem_singleton.mp hq]
        exact ⟨Or.inl rfl, by show zv e b ≤ zv e a; omega⟩
      | n + 5, hu, hq =>
        have hu : zv e a ≤ zv e b := hu
        rw [List.mem_singleton.mp hq]
        exact ⟨Or.inr rfl, hu⟩
end
section
/-! ===== what is known of the numbers, and how reckoning keeps it ===== -/
/-- an array's rule: bounds of its places, by the place's remainder -/
def zok (r : List zI) (j : Nat) (x : Int) : Prop := ∃ i : zI, r[j % r.length]? = some i ∧ i.1 ≤ x ∧ x ≤ i.2
def zSat (rul : Nat → List zI) (e : Nat → Int) (S : zS) : Prop := zS1 e S.1 ∧ (∀ q ∈ S.2.1, zwf S.1.length q.1 ∧ zwf S.1.length q.2 ∧ zv e q.2 ≤ zv e q.1) ∧ ∀ q ∈ S.2.2, q.1 < S.1.length ∧ zwf S.1.length q.2.2 ∧ ∃ j : Nat, zv e q.2.2 = (j : Int) ∧ zok (rul q.2.1) j (e q.1)
def zext (e : Nat → Int) (n : Nat) (x : Int) : Nat → Int := fun v => if v = n then x else e v
theorem zag_ext (e : Nat → Int) (n : Nat) (x : Int) : zag n e (zext e n x) := fun v hv => by
  unfold zext
  rw [if_neg (by omega)]
theorem zext_at (e : Nat → Int) (n : Nat) (x : Int) : zext e n x n = x := by
  unfold zext
  rw [if_pos rfl]
def zpush (S : zS) (i : zI) : zS := (S.1 ++ [i], S.2.1, S.2.2)
def zvar (S : zS) : zA := (0, 1, S.1.length, 0)
theorem zpush_len (S : zS) (i : zI) : (zpush S i).1.length = S.1.length + 1 := by simp [zpush]
theorem zvar_wf (S : zS) (i : zI) : zwf (zpush S i).1.length (zvar S) := Or.inr (by rw [zpush_len]; exact Nat.lt_succ_self _)
theorem zvar_v (S : zS) (e : Nat → Int) (x : Int) : zv (zext e S.1.length x) (zvar S) = x := by
  unfold zv zvar
  simp [zext]
theorem zSat_push {rul : Nat → List zI} {e : Nat → Int} {S : zS} {i : zI} {x : Int} (h : zSat rul e S) (hi : i.1 ≤ x ∧ x ≤ i.2) : zSat rul (zext e S.1.length x) (zpush S i) := by
  obtain ⟨h1, h2, h3⟩ := h
  have ag := zag_ext e S.1.length x
  refine ⟨fun v j hv => ?_, fun q hq => ?_, fun q hq => ?_⟩
  · by_cases hl : v < S.1.length
    · have hv' : S.1[v]? = some j := by
        have := hv
        unfold zpush at this
        simp only at this
        rwa [List.getElem?_append_left hl] at this
      rw [ag v hl]
      exact h1 _ _ hv'
    · have hv' := hv
      unfold zpush at hv'
      simp only at hv'
      rw [List.getElem?_append_right (by omega)] at hv'
      have hz : v - S.1.length < 1 := (List.getElem?_eq_some_iff.mp hv').1
      have hk : v = S.1.length := by omega
      subst hk
      rw [Nat.sub_self] at hv'
      cases hv'
      rw [zext_at]
      exact hi
  · obtain ⟨a, b, c⟩ := h2 q hq
    rw [zpush_len, zv_ag ag a, zv_ag ag b]
    exact ⟨zwf_le a (by omega), zwf_le b (by omega), c⟩
  · obtain ⟨a, b, j, c, d⟩ := h3 q hq
    rw [zpush_len, zv_ag ag b, ag _ a]
    exact ⟨by omega, zwf_le b (by omega), j, c, d⟩
theorem zSat_ref {rul : Nat → List zI} {e : Nat → Int} {S : zS} {L' : List zI} (h : zSat rul e S) (h1 : zS1 e L') (hl : L'.length = S.1.length) : zSat rul e (L', S.2.1, S.2.2) := by
  refine ⟨h1, fun q hq => ?_, fun q hq => ?_⟩
  · have := h.2.1 q hq
    rw [← hl] at this
    exact this
  · have := h.2.2 q hq
    rw [← hl] at this
    exact this
theorem zSat_fact {rul : Nat → List zI} {e : Nat → Int} {S : zS} {F : List (zA × zA)} (h : zSat rul e S) (hF : ∀ q ∈ F, zwf S.1.length q.1 ∧ zwf S.1.length q.2 ∧ zv e q.2 ≤ zv e q.1) : zSat rul e (S.1, F ++ S.2.1, S.2.2) := by
  refine ⟨h.1, fun q hq => ?_, h.2.2⟩
  rcases List.mem_append.mp hq with q1 | q1
  · exact hF q q1
  · exact h.2.1 q q1
theorem zSat_note {rul : Nat → List zI} {e : Nat → Int} {S : zS} {F : Nat × Nat × zA} (h : zSat rul e S) (hF : F.1 < S.1.length ∧ zwf S.1.length F.2.2 ∧ ∃ j : Nat, zv e F.2.2 = (j : Int) ∧ zok (rul F.2.1) j (e F.1)) : zSat rul e (S.1, S.2.1, F :: S.2.2) := by
  refine ⟨h.1, h.2.1, fun q hq => ?_⟩
  rcases List.mem_cons.mp hq with q1 | q1
  · rw [q1]; exact hF
  · exact h.2.2 q q1
/-- a new number within bounds -/
def znew (S : zS) (i : zI) : zS × zA := (zpush S i, zvar S)
def zfull : zI := (-2147483648, 2147483647)
def zsum (S : zS) (ia ib : Option zI) : zI := match ia with
  | none => zfull
  | some a => match ib with
    | none => zfull
    | some b => if -2147483648 ≤ a.1 + b.1 ∧ a.2 + b.2 ≤ 2147483647 then (a.1 + b.1, a.2 + b.2) else zfull
def zdif (F : Bool) (ia ib : Option zI) : zI := match ia with
  | none => zfull
  | some a => match ib with
    | none => zfull
    | some b => if -2147483648 ≤ a.1 - b.2 ∧ a.2 - b.1 ≤ 2147483647 then ((if F then (if a.1 - b.2 ≤ 0 then 0 else a.1 - b.2) else a.1 - b.2), a.2 - b.1) else zfull
/-- keep a number that fits an int; else any int -/
def znorm (S : zS) (r : zA) : zS × zA := if z32 S.1 r then (S, r) else znew S zfull
def zadd (S : zS) (a b : zA) : zS × zA :=
  if a.2.1 = 0 then znorm S (0, b.2.1, b.2.2.1, a.2.2.2 + b.2.2.2)
  else if b.2.1 = 0 then znorm S (0, a.2.1, a.2.2.1, a.2.2.2 + b.2.2.2)
  else if a.2.2.1 = b.2.2.1 then znorm S (0, a.2.1 + b.2.1, a.2.2.1, a.2.2.2 + b.2.2.2)
  else znew S (zsum S (zrng S.1 a) (zrng S.1 b))
def zsub (S : zS) (a b : zA) : zS × zA :=
  if a.2.1 = 0 then znorm S (0, -b.2.1, b.2.2.1, a.2.2.2 - b.2.2.2)
  else if b.2.1 = 0 then znorm S (0, a.2.1, a.2.2.1, a.2.2.2 - b.2.2.2)
  else if a.2.2.1 = b.2.2.1 then znorm S (0, a.2.1 - b.2.1, a.2.2.1, a.2.2.2 - b.2.2.2)
  else znew S (zdif (decide ((a, b) ∈ S.2.1)) (zrng S.1 a) (zrng S.1 b))
def zmul (S : zS) (a b : zA) : zS × zA :=
  if a.2.1 = 0 then znorm S (0, a.2.2.2 * b.2.1, b.2.2.1, a.2.2.2 * b.2.2.2)
  else if b.2.1 = 0 then znorm S (0, a.2.1 * b.2.2.2, a.2.2.1, a.2.2.2 * b.2.2.2)
  else znew S zfull
/-- remainder by a positive constant -/
def zrem (S : zS) (a b : zA) : Option (zS × zA) :=
  if b.2.1 = 0 ∧ 0 < b.2.2.2 ∧ b.2.2.2 ≤ 2147483647 ∧ z32 S.1 a = true then some (znew S (if zin S.1 a 0 2147483647 then (0, b.2.2.2 - 1) else (1 - b.2.2.2, b.2.2.2 - 1))) else none
/-- what a reckoning gives: the old numbers stay, the new one is x -/
def zres (rul : Nat → List zI) (e : Nat → Int) (S : zS) (r : zS × zA) (x : Int32) : Prop :=
  ∃ e' : Nat → Int, zag S.1.length e e' ∧ zSat rul e' r.1 ∧ S.1.length ≤ r.1.1.length ∧ zwf r.1.1.length r.2 ∧ r.2.1 = 0 ∧ Int32.ofInt (zv e' r.2) = x
theorem znew_ok {rul : Nat → List zI} {e : Nat → Int} {S : zS} {i : zI} {x : Int32} (h : zSat rul e S) (hi : i.1 ≤ x.toInt ∧ x.toInt ≤ i.2) : zres rul e S (znew S i) x := by
  refine ⟨zext e S.1.length x.toInt, zag_ext _ _ _, zSat_push h hi, ?_, zvar_wf S i, rfl, ?_⟩
  · show S.1.length ≤ (zpush S i).1.length
    rw [zpush_len]; omega
  · show Int32.ofInt (zv _ (zvar S)) = x
    rw [zvar_v]
    exact Int32.ofInt_toInt x
theorem znorm_ok {rul : Nat → List zI} {e : Nat → Int} {S : zS} {r : zA} {x : Int32} (h : zSat rul e S) (h0 : r.1 = 0) (hx : Int32.ofInt (zv e r) = x) : zres rul e S (znorm S r) x := by
  unfold znorm
  by_cases c : z32 S.1 r = true
  · rw [if_pos c]
    exact ⟨e, zag_rf _ _, h, Nat.le_refl _, zin_wf c, h0, hx⟩
  · rw [if_neg c]
    exact znew_ok h (zi_rng x)
theorem zadd_ok {rul : Nat → List zI} {e : Nat → Int} {S : zS} {a b : zA} (h : zSat rul e S) : zres rul e S (zadd S a b) (Int32.ofInt (zv e a) + Int32.ofInt (zv e b)) := by
  have key : ∀ r : zA, zv e r = zv e a + zv e b → Int32.ofInt (zv e r) = Int32.ofInt (zv e a) + Int32.ofInt (zv e b) := fun r hr => by rw [hr, Int32.ofInt_add]
  unfold zadd
  by_cases c1 : a.2.1 = 0
  · rw [if_pos c1]
    refine znorm_ok h rfl (key _ ?_)
    unfold zv
    rw [c1]
    simp
    omega
  · rw [if_neg c1]
    by_cases c2 : b.2.1 = 0
    · rw [if_pos c2]
      refine znorm_ok h rfl (key _ ?_)
      unfold zv
      rw [c2]
      simp
      omega
    · rw [if_neg c2]
      by_cases c3 : a.2.2.1 = b.2.2.1
      · rw [if_pos c3]
        refine znorm_ok h rfl (key _ ?_)
        unfold zv
        rw [← c3]
        simp only
        rw [Int.add_mul]
        omega
      · rw [if_neg c3]
        refine znew_ok h ?_
        cases ha : zrng S.1 a with
        | none => exact zi_rng _
        | some ia =>
          cases hb : zrng S.1 b with
          | none => exact zi_rng _
          | some ib =>
            unfold zsum
            simp only
            by_cases c : -2147483648 ≤ ia.1 + ib.1 ∧ ia.2 + ib.2 ≤ 2147483647
            · rw [if_pos c]
              obtain ⟨a1, a2⟩ := zrng_ok h.1 ha
              obtain ⟨b1, b2⟩ := zrng_ok h.1 hb
              rw [← Int32.ofInt_add, z32_i (by omega)]
              exact ⟨by show ia.1 + ib.1 ≤ _; omega, by show _ ≤ ia.2 + ib.2; omega⟩
            · rw [if_neg c]
              exact zi_rng _
theorem zsub_ok {rul : Nat → List zI} {e : Nat → Int} {S : zS} {a b : zA} (h : zSat rul e S) : zres rul e S (zsub S a b) (Int32.ofInt (zv e a) - Int32.ofInt (zv e b)) := by
  have key : ∀ r : zA, zv e r = zv e a - zv e b → Int32.ofInt (zv e r) = Int32.ofInt (zv e a) - Int32.ofInt (zv e b) := fun r hr => by rw [hr, Int32.ofInt_sub]
  unfold zsub
  by_cases c1 : a.2.1 = 0
  · rw [if_pos c1]
    refine znorm_ok h rfl (key _ ?_)
    unfold zv
    rw [c1]
    simp only
    rw [Int.neg_mul, Int.zero_mul]
    omega
  · rw [if_neg c1]
    by_cases c2 : b.2.1 = 0
    · rw [if_pos c2]
      refine znorm_ok h rfl (key _ ?_)
      unfold zv
      rw [c2]
      simp
      omega
    · rw [if_neg c2]
      by_cases c3 : a.2.2.1 = b.2.2.1
      · rw [if_pos c3]
        refine znorm_ok h rfl (key _ ?_)
        unfold zv
        rw [← c3]
        simp only
        rw [Int.sub_mul]
        omega
      · rw [if_neg c3]
        refine znew_ok h ?_
        cases ha : zrng S.1 a with
        | none => exact zi_rng _
        | some ia =>
          cases hb : zrng S.1 b with
          | none => exact zi_rng _
          | some ib =>
            unfold zdif
            simp only
            by_cases c : -2147483648 ≤ ia.1 - ib.2 ∧ ia.2 - ib.1 ≤ 2147483647
            · rw [if_pos c]
              obtain ⟨a1, a2⟩ := zrng_ok h.1 ha
              obtain ⟨b1, b2⟩ := zrng_ok h.1 hb
              rw [← Int32.ofInt_sub, z32_i (by omega)]
              refine ⟨?_, by show _ ≤ ia.2 - ib.1; omega⟩
              by_cases hm : (a, b) ∈ S.2.1
              · have h3 := (h.2.1 _ hm).2.2
                have h3 : zv e b ≤ zv e a := h3
                simp only [hm, decide_true, if_true]
                by_cases c4 : ia.1 - ib.2 ≤ 0
                · simp only [if_pos c4]; omega
                · simp only [if_neg c4]; omega
              · simp only [hm, decide_false]
                show ia.1 - ib.2 ≤ _
                omega
            · rw [if_neg c]
              exact zi_rng _
theorem zmul_ok {rul : Nat → List zI} {e : Nat → Int} {S : zS} {a b : zA} (h : zSat rul e S) : zres rul e S (zmul S a b) (Int32.ofInt (zv e a) * Int32.ofInt (zv e b)) := by
  have key : ∀ r : zA, zv e r = zv e a * zv e b → Int32.ofInt (zv e r) = Int32.ofInt (zv e a) * Int32.ofInt (zv e b) := fun r hr => by rw [hr, Int32.ofInt_mul]
  unfold zmul
  by_cases c1 : a.2.1 = 0
  · rw [if_pos c1]
    refine znorm_ok h rfl (key _ ?_)
    unfold zv
    rw [c1]
    simp only
    rw [Int.zero_mul, Int.zero_add, Int.mul_add, Int.mul_assoc]
  · rw [if_neg c1]
    by_cases c2 : b.2.1 = 0
    · rw [if_pos c2]
      refine znorm_ok h rfl (key _ ?_)
      unfold zv
      rw [c2]
      simp only
      rw [Int.zero_mul, Int.zero_add, Int.add_mul, Int.mul_assoc, Int.mul_assoc, Int.mul_comm b.2.2.2]
    · rw [if_neg c2]
      exact znew_ok h (zi_rng _)
theorem zrem_x {x d : Int32} (hd : 0 < d.toInt) : (x - x / d * d).toInt = x.toInt.tmod d.toInt := by
  have e1 : (x / d).toInt = x.toInt.tdiv d.toInt := by
    rw [Int32.toInt_div]
    have h1 := zi_rng x
    have h2 : (x.toInt.tdiv d.toInt).natAbs ≤ x.toInt.natAbs := Int.natAbs_tdiv_le_natAbs _ _
    by_cases hm : x.toInt.tdiv d.toInt = 2147483648
    · exfalso
      have h4 : x.toInt = -2147483648 := by omega
      have h5 : x.toInt.tdiv d.toInt ≤ 0 := by
        rw [h4, show (-2147483648 : Int) = -(2147483648 : Int) from rfl, Int.neg_tdiv]
        have := Int.tdiv_nonneg (a := 2147483648) (b := d.toInt) (by decide) (by omega)
        omega
      omega
    · exact Int.bmod_eq_of_le (by omega) (by omega)
  have e2 : x.toInt - x.toInt.tdiv d.toInt * d.toInt = x.toInt.tmod d.toInt := by
    have := Int.tmod_add_tdiv_mul x.toInt d.toInt
    omega
  have h6 : (x.toInt.tmod d.toInt).natAbs ≤ x.toInt.natAbs := by
    rw [Int.natAbs_tmod]
    exact Nat.mod_le _ _
  have h7 := zi_rng x
  have e3 : x - x / d * d = Int32.ofInt (x.toInt - x.toInt.tdiv d.toInt * d.toInt) := by
    rw [Int32.ofInt_sub, Int32.ofInt_mul, ← e1, Int32.ofInt_toInt, Int32.ofInt_toInt, Int32.ofInt_toInt]
  rw [e3, e2]
  have h8 := zi_rng d
  have h9 : (x.toInt.tmod d.toInt).natAbs < d.toInt.natAbs := by
    rw [Int.natAbs_tmod]
    exact Nat.mod_lt _ (by omega)
  exact z32_i (by omega)
theorem zrem_ok {rul : Nat → List zI} {e : Nat → Int} {S : zS} {a b : zA} {r : zS × zA} (h : zSat rul e S) (hr : zrem S a b = some r) : ¬ Int32.ofInt (zv e b) = 0 ∧ zres rul e S r (Int32.ofInt (zv e a) - Int32.ofInt (zv e a) / Int32.ofInt (zv e b) * Int32.ofInt (zv e b)) := by
  unfold zrem at hr
  by_cases c : b.2.1 = 0 ∧ 0 < b.2.2.2 ∧ b.2.2.2 ≤ 2147483647 ∧ z32 S.1 a = true
  · rw [if_pos c] at hr
    cases hr
    obtain ⟨c1, c2, c3, c4⟩ := c
    have hb : zv e b = b.2.2.2 := by unfold zv; rw [c1]; simp
    have hbi : (Int32.ofInt (zv e b)).toInt = b.2.2.2 := by rw [hb]; exact z32_i (by omega)
    have hai : (Int32.ofInt (zv e a)).toInt = zv e a := z32_i (zin_ok h.1 c4)
    refine ⟨fun z => ?_, znew_ok h ?_⟩
    · rw [z] at hbi
      have : (0 : Int32).toInt = 0 := by decide
      omega
    · rw [zrem_x (by omega), hbi, hai]
      have h1 : ((zv e a).tmod b.2.2.2).natAbs < b.2.2.2.natAbs := by
        rw [Int.natAbs_tmod]
        exact Nat.mod_lt _ (by omega)
      by_cases c5 : zin S.1 a 0 2147483647 = true
      · rw [if_pos c5]
        have h2 := Int.tmod_nonneg b.2.2.2 (zin_ok h.1 c5).1
        exact ⟨h2, by show _ ≤ b.2.2.2 - 1; omega⟩
      · rw [if_neg c5]
        exact ⟨by show 1 - b.2.2.2 ≤ _; omega, by show _ ≤ b.2.2.2 - 1; omega⟩
  · rw [if_neg c] at hr
    cases hr
end
section
/-! ===== what a walk's picture says of the machine ===== -/
/-- the good words of the tables -/
def zTg : List Cond := lw_tbl.filter goodWord
def zval (e : Nat → Int) (ad : Nat → Nat) (a : zA) : Value := match a.1 with
  | 0 => .int (Int32.ofInt (zv e a))
  | 1 => .long (Int64.ofInt (zv e a))
  | 3 => .null
  | _ => .ref (ad a.2.2.1)
theorem zval_0 {e : Nat → Int} {ad : Nat → Nat} {a : zA} (h : a.1 = 0) : zval e ad a = .int (Int32.ofInt (zv e a)) := by unfold zval; rw [h]; rfl
theorem zval_1 {e : Nat → Int} {ad : Nat → Nat} {a : zA} (h : a.1 = 1) : zval e ad a = .long (Int64.ofInt (zv e a)) := by unfold zval; rw [h]; rfl
theorem zval_2 {e : Nat → Int} {ad : Nat → Nat} {a : zA} (h : a.1 = 2) : zval e ad a = .ref (ad a.2.2.1) := by unfold zval; rw [h]; rfl
theorem zval_3 {e : Nat → Int} {ad : Nat → Nat} {a : zA} (h : a.1 = 3) : zval e ad a = .null := by unfold zval; rw [h]; rfl
theorem zval_cat (e : Nat → Int) (ad : Nat → Nat) (a : zA) : ((zval e ad a).category == 2) = (a.1 == 1) := by
  obtain ⟨t, k, v, c⟩ := a
  match t with
  | 0 => rfl
  | 1 => rfl
  | 2 => rfl
  | 3 => rfl
  | t + 4 => simp [zval, Value.category]
theorem zval_c1 (e : Nat → Int) (ad : Nat → Nat) {a : zA} (h : ¬ a.1 = 1) : (zval e ad a).category = 1 := by
  obtain ⟨t, k, v, c⟩ := a
  match t, h with
  | 0, _ => rfl
  | 1, h => exact absurd rfl h
  | 2, _ => rfl
  | 3, _ => rfl
  | t + 4, _ => rfl
theorem zval_ag {n : Nat} {e e' : Nat → Int} {ad : Nat → Nat} {a : zA} (h : zag n e e') (hw : zwf n a) : zval e' ad a = zval e ad a := by
  obtain ⟨t, k, v, c⟩ := a
  match t with
  | 0 => rw [zval_0 rfl, zval_0 rfl, zv_ag h hw]
  | 1 => rw [zval_1 rfl, zval_1 rfl, zv_ag h hw]
  | 2 => rfl
  | 3 => rfl
  | t + 4 => rfl
def zst (e : Nat → Int) (ad : Nat → Nat) (st : List zA) : List Value := st.map (zval e ad)
def zlv (e : Nat → Int) (ad : Nat → Nat) (lc : zL) : List (Nat × Value) := lc.map (fun q => (q.1, zval e ad q.2))
theorem zst_ag {n : Nat} {e e' : Nat → Int} {ad : Nat → Nat} {st : List zA} (h : zag n e e') (hw : ∀ a ∈ st, zwf n a) : zst e' ad st = zst e ad st := List.map_congr_left (fun a ha => zval_ag h (hw a ha))
theorem zlv_ag {n : Nat} {e e' : Nat → Int} {ad : Nat → Nat} {lc : zL} (h : zag n e e') (hw : ∀ q ∈ lc, zwf n q.2) : zlv e' ad lc = zlv e ad lc := List.map_congr_left (fun q hq => by rw [zval_ag h (hw q hq)])
def zget : zL → Nat → Option zA
  | [], _ => none
  | q :: l, j => if q.1 = j then some q.2 else zget l j
theorem zget_mem {lc : zL} {j : Nat} {a : zA} (h : zget lc j = some a) : (j, a) ∈ lc := by
  induction lc with
  | nil => cases h
  | cons q l ih =>
    unfold zget at h
    by_cases hq : q.1 = j
    · rw [if_pos hq] at h
      cases h
      rw [← hq]
      exact List.mem_cons_self
    · rw [if_neg hq] at h
      exact List.mem_cons_of_mem _ (ih h)
def zput (lc : zL) (j : Nat) (a : zA) : zL := (j, a) :: lc.filter (fun q => !(q.1 == j) && !(q.1 + 1 == j && q.2.1 == 1))
theorem zlv_put (e : Nat → Int) (ad : Nat → Nat) (lc : zL) (j : Nat) (a : zA) : (j, zval e ad a) :: (zlv e ad lc).filter (fun q => !(q.1 == j) && !(q.1 + 1 == j && q.2.category == 2)) = zlv e ad (zput lc j a) := by
  unfold zlv zput
  rw [List.map_cons, List.filter_map]
  congr 2
  apply List.filter_congr
  intro q _
  simp only [Function.comp_apply, zval_cat]
theorem zput_wf {n : Nat} {lc : zL} {j : Nat} {a : zA} (h : ∀ q ∈ lc, zwf n q.2) (ha : zwf n a) : ∀ q ∈ zput lc j a, zwf n q.2 := by
  intro q hq
  rcases List.mem_cons.mp hq with h1 | h1
  · rw [h1]; exact ha
  · exact h q (List.mem_filter.mp h1).1
theorem zlv_mem {e : Nat → Int} {ad : Nat → Nat} {lc : zL} {j : Nat} {a : zA} (h : zget lc j = some a) : (j, zval e ad a) ∈ zlv e ad lc := List.mem_map.mpr ⟨(j, a), zget_mem h, rfl⟩
theorem zls_get {e : Nat → Int} {ad : Nat → Nat} {lc : zL} {j : Nat} {a : zA} {ls : Array Slot} {nL : Nat} (hl : lv_has ls nL (zlv e ad lc)) (h : zget lc j = some a) : ls[j]? = some (.val (zval e ad a)) := hl.2.2 _ (zlv_mem h)
/-- rows of 13: a waited-for number is one (but at place q) -/
def zPw (f : Nat → Int32) (q : Int) : Prop := ∀ r k : Nat, k < 3 → ¬ ((13 * r + 9 : Nat) : Int) = q → (f (13 * r + 9)).toInt ≤ (k : Int) ∨ 1 ≤ (f (13 * r + 10 + k)).toInt
def zX1 (f : Nat → Int32) (vs : List Int) : Prop := match vs with
  | [] => zPw f (-1)
  | [p, w] => zPw f (-1) ∧ ∃ r : Nat, p = ((13 * r + 9 : Nat) : Int) ∧ (f (13 * r + 9)).toInt = w
  | [p, w, j] => ∃ r : Nat, p = ((13 * r + 9 : Nat) : Int) ∧ zPw f p ∧ (f (13 * r + 9)).toInt = w ∧ ∀ k : Nat, k < 3 → (k : Int) < j → 1 ≤ (f (13 * r + 10 + k)).toInt
  | _ => False
def zX2 (f : Nat → Int32) (vs : List Int) : Prop := match vs with
  | [n] => ∀ k : Nat, k < 3 → (k : Int) < n → 1 ≤ (f k).toInt
  | _ => False
/-- what an array's rule says besides -/
def zX (rr : Nat) (f : Nat → Int32) (vs : List Int) : Prop := if rr = 1 then zX1 f vs else if rr = 2 then zX2 f vs else True
/-- what is known of the script -/
def zY (n : Nat) (f : Nat → Int32) (vs : List Int) : Prop := match vs with
  | [] => True
  | [a] => a = (n : Int)
  | i :: v :: l => ∃ j : Nat, i = (j : Int) ∧ j + (l.length + 1) ≤ n ∧ ∀ (k : Nat) (x : Int), (v :: l)[k]? = some x → f (j + k) = Int32.ofInt x
/-- a cell of the picture, a cell of the world -/
def zCR (rul : Nat → List zI) (cy : Nat → ClassId) (e : Nat → Int) (ad : Nat → Nat) (c : zC) (E : va_E) : Prop := match c.1 with
  | 0 => E = .inr (c.2.1, zst e ad c.2.2.2.2)
  | 1 => ∃ f : Nat → Int32, E = .inl (cy c.2.1, c.2.2.1, .inl f) ∧ c.2.2.2.2.length = c.2.2.1 ∧ ∀ (j : Nat) (a : zA), c.2.2.2.2[j]? = some a → f j = Int32.ofInt (zv e a)
  | 2 => ∃ f : Nat → Int32, E = .inl (cy c.2.1, c.2.2.1, .inl f) ∧ (∀ j : Nat, j < c.2.2.1 → zok (rul c.2.2.2.1) j (f j).toInt) ∧ zX c.2.2.2.1 f (c.2.2.2.2.map (zv e))
  | 5 => ∃ (n : Nat) (f : Nat → Int32), E = .inl (cy c.2.1, n, .inl f) ∧ n ≤ c.2.2.1 ∧ zY n f (c.2.2.2.2.map (zv e))
  | 3 => ∃ g : Nat → Option Nat, E = .inl (cy c.2.1, c.2.2.1, .inr (.inr (.inr (.inr g)))) ∧ c.2.2.2.2.length = c.2.2.1 ∧ ∀ (j : Nat) (a : zA), c.2.2.2.2[j]? = some a → g j = (if a.1 = 3 then none else some (ad a.2.2.1))
  | _ => ∃ f : Nat → Int64, E = .inl (cy c.2.1, c.2.2.1, .inr (.inl f)) ∧ c.2.2.2.2.length = c.2.2.1 ∧ ∀ (j : Nat) (a : zA), c.2.2.2.2[j]? = some a → f j = Int64.ofInt (zv e a)
theorem zmv_ag {n : Nat} {e e' : Nat → Int} {fs : List zA} (h : zag n e e') (hw : ∀ a ∈ fs, zwf n a) : fs.map (zv e') = fs.map (zv e) := List.map_congr_left fun a ha => zv_ag h (hw a ha)
theorem zCR_ag {rul : Nat → List zI} {cy : Nat → ClassId} {n : Nat} {e e' : Nat → Int} {ad : Nat → Nat} {c : zC} {E : va_E} (h : zag n e e') (hw : ∀ a ∈ c.2.2.2.2, zwf n a) (hc : zCR rul cy e ad c E) : zCR rul cy e' ad c E := by
  obtain ⟨t, ci, len, r, fs⟩ := c
  have hw : ∀ a ∈ fs, zwf n a := hw
  match t, hc with
  | 0, hc =>
    have hc : E = .inr (ci, zst e ad fs) := hc
    show E = .inr (ci, zst e' ad fs)
    rw [zst_ag h hw]
    exact hc
  | 1, ⟨f, h1, h2, h3⟩ => exact ⟨f, h1, h2, fun j a ha => by rw [zv_ag h (hw a (List.mem_of_getElem? ha))]; exact h3 j a ha⟩
  | 2, ⟨f, h1, h2, h3⟩ => exact ⟨f, h1, h2, by show zX r f (fs.map (zv e')); rw [zmv_ag h hw]; exact h3⟩
  | 3, ⟨f, h1, h2, h3⟩ => exact ⟨f, h1, h2, h3⟩
  | 5, ⟨n, f, h1, h2, h3⟩ => exact ⟨n, f, h1, h2, by show zY n f (fs.map (zv e')); rw [zmv_ag h hw]; exact h3⟩
  | 4, ⟨f, h1, h2, h3⟩ => exact ⟨f, h1, h2, fun j a ha => by rw [zv_ag h (hw a (List.mem_of_getElem? ha))]; exact h3 j a ha⟩
  | t + 6, ⟨f, h1, h2, h3⟩ => exact ⟨f, h1, h2, fun j a ha => by rw [zv_ag h (hw a (List.mem_of_getElem? ha))]; exact h3 j a ha⟩
def zHR (rul : Nat → List zI) (cy : Nat → ClassId) (e : Nat → Int) (ad : Nat → Nat) (h : List zC) (ws : va_W) : Prop := ws.length = h.length ∧ ∀ (i : Nat) (c : zC), h[i]? = some c → ∃ E : va_E, ws[i]? = some (ad i, E) ∧ zCR rul cy e ad c E
theorem zHR_set {rul : Nat → List zI} {cy : Nat → ClassId} {e : Nat → Int} {ad : Nat → Nat} {h : List zC} {ws : va_W} {i : Nat} {c : zC} {E : va_E} (hr : zHR rul cy e ad h ws) (hc : zCR rul cy e ad c E) : zHR rul cy e ad (h.set i c) (ws.set i (ad i, E)) := by
  refine ⟨by rw [List.length_set, List.length_set]; exact hr.1, fun j d hd => ?_⟩
  by_cases hij : i = j
  · subst hij
    have hl : i < h.length := by
      have := (List.getElem?_eq_some_iff.mp hd).1
      rwa [List.length_set] at this
    rw [List.getElem?_set_self hl] at hd
    cases hd
    exact ⟨E, List.getElem?_set_self (by rw [hr.1]; exact hl), hc⟩
  · rw [List.getElem?_set_ne hij] at hd
    obtain ⟨E2, h1, h2⟩ := hr.2 j d hd
    exact ⟨E2, by rw [List.getElem?_set_ne hij]; exact h1, h2⟩
/-- array types by number -/
def ztys (cy : Nat → ClassId) : List (ClassId × FieldType) := [(cy 0, .int), (cy 1, .long), (cy 2, .object RX1), (cy 3, .array .int)]
/-- the picture holds -/
def zInv (rul : Nat → List zI) (D : va_G) (cy : Nat → ClassId) (ad : Nat → Nat) (A : Nat → Prop) (nL : Nat) (H0 : Heap) (e : Nat → Int) (lc : zL) (st : List zA) (h : List zC) (S : zS) (ws : va_W) (H : Heap) (locs : List Loc) (ls : Array Slot) : Prop :=
  zSat rul e S ∧ (∀ q ∈ lc, zwf S.1.length q.2) ∧ (∀ a ∈ st, zwf S.1.length a) ∧ (∀ c ∈ h, ∀ a ∈ c.2.2.2.2, zwf S.1.length a) ∧ zHR rul cy e ad h ws ∧ va_P D vwCl ws H ∧ va_D A ws ∧ va_S A H0 H locs ∧ lv_has ls nL (zlv e ad lc)
theorem zInv_ext {rul : Nat → List zI} {D : va_G} {cy : Nat → ClassId} {ad : Nat → Nat} {A : Nat → Prop} {nL : Nat} {H0 : Heap} {e e' : Nat → Int} {lc : zL} {st : List zA} {h : List zC} {S S' : zS} {ws : va_W} {H : Heap} {locs : List Loc} {ls : Array Slot}
    (hi : zInv rul D cy ad A nL H0 e lc st h S ws H locs ls) (ha : zag S.1.length e e') (hs : zSat rul e' S') (hn : S.1.length ≤ S'.1.length) : zInv rul D cy ad A nL H0 e' lc st h S' ws H locs ls := by
  obtain ⟨h1, h2, h3, h4, h5, h6, h7, h8, h9⟩ := hi
  refine ⟨hs, fun q hq => zwf_le (h2 q hq) hn, fun a h => zwf_le (h3 a h) hn, fun c hc a h => zwf_le (h4 c hc a h) hn, ⟨h5.1, fun i c hc => ?_⟩, h6, h7, h8, ?_⟩
  · obtain ⟨E, q1, q2⟩ := h5.2 i c hc
    exact ⟨E, q1, zCR_ag ha (h4 c (List.mem_of_getElem? hc)) q2⟩
  · rw [zlv_ag ha h2]
    exact h9
section ZW
variable {rul : Nat → List zI} {D : va_G} {cy : Nat → ClassId} {ad : Nat → Nat} {A : Nat → Prop} {nL : Nat} {e : Nat → Int} {lc : zL} {st : List zA} {h : List zC} {S : zS} {ws : va_W} {H : Heap} {locs : List Loc} {ls : Array Slot}
variable {p : Program} {l : Launch} {ev : Env} {R : Room} {s : State} {m : MethodId} {args : Array Value} {below : List Frame} {meth : Method} {c : Code} {cells slots : Nat} {Q : State → Prop} {cc : ByteArray} {pc : Nat}
/-- where the walk goes on: any machine that the picture fits, its old numbers as they were -/
def zNx (rul : Nat → List zI) (D : va_G) (cy : Nat → ClassId) (ad : Nat → Nat) (A : Nat → Prop) (nL : Nat) (p : Program) (l : Launch) (ev : Env) (R : Room) (s : State) (m : MethodId) (args : Array Value) (below : List Frame) (meth : Method) (c : Code) (cells slots : Nat) (Q : State → Prop) (n : Nat) (e : Nat → Int) (pc : Nat) (lc : zL) (st : List zA) (h : List zC) (S : zS) : Prop :=
  ∀ (e' : Nat → Int) (ws : va_W) (H : Heap) (locs : List Loc) (ls : Array Slot), zag n e e' → n ≤ S.1.length → zInv rul D cy ad A nL s.heap e' lc st h S ws H locs ls → W p l ev R s m args below meth c H locs cells slots Q (F0 m pc ls (zst e' ad st))
theorem zk_iload (hx : p.tables.exec = Jvm.exec) (hb : c.code = cc) {j : Nat} {a : zA} (hi : zInv rul D cy ad A nL s.heap e lc st h S ws H locs ls) (hg : zget lc j = some a) (ht : a.1 = 0) (hd : (∃ k : Fin 4, (k : Nat) = j ∧ decode cc pc = .ok (.iload_n k, 1)))
    (kk : zNx rul D cy ad A nL p l ev R s m args below meth c cells slots Q S.1.length e (pc + 1) lc (a :: st) h S) : W p l ev R s m args below meth c H locs cells slots Q (F0 m pc ls (zst e ad st)) := by
  obtain ⟨k, hk, hd⟩ := hd
  obtain ⟨h1, h2, h3, h4, h5, h6, h7, h8, h9⟩ := id hi
  have hv := zls_get h9 hg
  rw [zval_0 ht] at hv
  refine lv_iload_n hx hb hd hk hv ?_
  have := kk e ws H locs ls (zag_rf _ _) (Nat.le_refl _) ⟨h1, h2, fun b hb => (List.mem_cons.mp hb).elim (fun q => by rw [q]; exact h2 _ (zget_mem hg)) (h3 b), h4, h5, h6, h7, h8, h9⟩
  rw [show zst e ad (a :: st) = Value.int (Int32.ofInt (zv e a)) :: zst e ad st from by unfold zst; rw [List.map_cons, zval_0 ht]] at this
  exact this
end ZW
end
section
/-! ===== an instruction, a row: from the picture behind it to the picture ahead of it ===== -/
theorem zc_eq {x y : Int} (hx : -2147483648 ≤ x ∧ x ≤ 2147483647) (hy : -2147483648 ≤ y ∧ y ≤ 2147483647) : Int32.ofInt x = Int32.ofInt y ↔ x = y := by
  rw [← Int32.toInt_inj, z32_i hx, z32_i hy]
theorem zc_lt {x y : Int} (hx : -2147483648 ≤ x ∧ x ≤ 2147483647) (hy : -2147483648 ≤ y ∧ y ≤ 2147483647) : Int32.ofInt x < Int32.ofInt y ↔ x < y := by
  rw [Int32.lt_iff_toInt_lt, z32_i hx, z32_i hy]
theorem zc_le {x y : Int} (hx : -2147483648 ≤ x ∧ x ≤ 2147483647) (hy : -2147483648 ≤ y ∧ y ≤ 2147483647) : Int32.ofInt x ≤ Int32.ofInt y ↔ x ≤ y := by
  rw [Int32.le_iff_toInt_le, z32_i hx, z32_i hy]
theorem zc_in {z : Int} {n : Nat} (h0 : 0 ≤ z) (h1 : z < n) (hn : n < 2 ^ 31) : vp_in (Int32.ofInt z) n ∧ (Int32.ofInt z).toNatClampNeg = z.toNat := by
  have h2 : (Int32.ofInt z).toInt = z := z32_i ⟨by omega, by omega⟩
  refine ⟨vp_in_iff.mpr (by rw [h2]; exact ⟨h0, h1⟩), ?_⟩
  rw [← Int32.toNat_toInt, h2]
def zrd (r : List zI) (a : zA) : zI := match r[(a.2.2.2 % (r.length : Int)).toNat]? with
  | some i => if a.2.1 % (r.length : Int) = 0 then i else zfull
  | none => zfull
theorem zidx {k v c : Int} {n j : Nat} (h : (j : Int) = k * v + c) (hk : k % (n : Int) = 0) : j % n = (c % (n : Int)).toNat := by
  have h1 : ((j % n : Nat) : Int) = c % (n : Int) := by
    rw [Int.natCast_emod, h]
    obtain ⟨q, hq⟩ := Int.dvd_of_emod_eq_zero hk
    rw [hq, Int.mul_assoc, Int.add_comm, Int.add_mul_emod_self_left]
  rw [← h1]
  rfl
theorem zrd_ok {e : Nat → Int} {r : List zI} {a : zA} {j : Nat} {x : Int32} (hj : (j : Int) = zv e a) (h : zok r j x.toInt) : (zrd r a).1 ≤ x.toInt ∧ x.toInt ≤ (zrd r a).2 := by
  unfold zrd
  cases hr : r[(a.2.2.2 % (r.length : Int)).toNat]? with
  | none => exact zi_rng x
  | some i =>
    simp only
    by_cases c : a.2.1 % (r.length : Int) = 0
    · rw [if_pos c]
      obtain ⟨i2, h1, h2⟩ := h
      rw [zidx hj c] at h1
      cases h1.symm.trans hr
      exact h2
    · rw [if_neg c]
      exact zi_rng x
def zwr (S : zS) (rid : Nat) (r : List zI) (a b : zA) : Bool :=
  (match r[(a.2.2.2 % (r.length : Int)).toNat]? with
    | some i => decide (a.2.1 % (r.length : Int) = 0) && zin S.1 b i.1 i.2 && z32 S.1 b
    | none => false) || (decide (b.1 = 0 ∧ b.2.1 = 1 ∧ b.2.2.2 = 0) && z32 S.1 b && decide ((b.2.2.1, rid, a) ∈ S.2.2))
theorem zwr_ok {rul : Nat → List zI} {e : Nat → Int} {S : zS} {rid : Nat} {a b : zA} {j : Nat} (hs : zSat rul e S) (hj : (j : Int) = zv e a) (h : zwr S rid (rul rid) a b = true) : zok (rul rid) j (Int32.ofInt (zv e b)).toInt := by
  unfold zwr at h
  rcases Bool.or_eq_true _ _ ▸ h with h | h
  · cases hr : (rul rid)[(a.2.2.2 % ((rul rid).length : Int)).toNat]? with
    | none => rw [hr] at h; cases h
    | some i =>
      rw [hr] at h
      simp only [Bool.and_eq_true, decide_eq_true_eq] at h
      obtain ⟨⟨h1, h2⟩, h3⟩ := h
      rw [z32_i (zin_ok hs.1 h3)]
      exact ⟨i, by rw [zidx hj h1]; exact hr, zin_ok hs.1 h2⟩
  · simp only [Bool.and_eq_true, decide_eq_true_eq] at h
    obtain ⟨⟨⟨-, h1, h2⟩, h3⟩, h4⟩ := h
    obtain ⟨-, -, j2, q1, q2⟩ := hs.2.2 _ h4
    have hb : zv e b = e b.2.2.1 := by unfold zv; rw [h1, h2]; omega
    rw [z32_i (zin_ok hs.1 h3), hb]
    have q1 : zv e a = (j2 : Int) := q1
    have : j = j2 := by omega
    rw [this]
    exact q2
section ZW
variable {rul : Nat → List zI} {D : va_G} {cy : Nat → ClassId} {ad : Nat → Nat} {A : Nat → Prop} {nL : Nat} {e : Nat → Int} {lc : zL} {st : List zA} {h : List zC} {S : zS} {ws : va_W} {H : Heap} {locs : List Loc} {ls : Array Slot}
variable {p : Program} {l : Launch} {ev : Env} {R : Room} {s : State} {m : MethodId} {args : Array Value} {below : List Frame} {meth : Method} {c : Code} {cells slots : Nat} {Q : State → Prop} {cc : ByteArray} {pc : Nat} {a b : zA}
theorem zI_st {st' : List zA} (hi : zInv rul D cy ad A nL s.heap e lc st h S ws H locs ls) (h3 : ∀ a ∈ st', zwf S.1.length a) : zInv rul D cy ad A nL s.heap e lc st' h S ws H locs ls := ⟨hi.1, hi.2.1, h3, hi.2.2.2⟩
theorem zI_tl (hi : zInv rul D cy ad A nL s.heap e lc (a :: st) h S ws H locs ls) : zInv rul D cy ad A nL s.heap e lc st h S ws H locs ls := zI_st hi fun x hx => hi.2.2.1 x (List.mem_cons_of_mem _ hx)
theorem zI_hd (hi : zInv rul D cy ad A nL s.heap e lc (a :: st) h S ws H locs ls) : zwf S.1.length a := hi.2.2.1 a List.mem_cons_self
theorem zI_cons (hi : zInv rul D cy ad A nL s.heap e lc st h S ws H locs ls) (ha : zwf S.1.length a) : zInv rul D cy ad A nL s.heap e lc (a :: st) h S ws H locs ls := zI_st hi fun x hx => (List.mem_cons.mp hx).elim (fun q => by rw [q]; exact ha) (hi.2.2.1 x)
theorem zI_lc {lc' : zL} {ls' : Array Slot} (hi : zInv rul D cy ad A nL s.heap e lc st h S ws H locs ls) (h2 : ∀ q ∈ lc', zwf S.1.length q.2) (h9 : lv_has ls' nL (zlv e ad lc')) : zInv rul D cy ad A nL s.heap e lc' st h S ws H locs ls' := ⟨hi.1, h2, hi.2.2.1, hi.2.2.2.1, hi.2.2.2.2.1, hi.2.2.2.2.2.1, hi.2.2.2.2.2.2.1, hi.2.2.2.2.2.2.2.1, h9⟩
theorem zI_hp {h' : List zC} {ws' : va_W} {H' : Heap} {locs' : List Loc} (hi : zInv rul D cy ad A nL s.heap e lc st h S ws H locs ls) (h4 : ∀ c ∈ h', ∀ a ∈ c.2.2.2.2, zwf S.1.length a) (h5 : zHR rul cy e ad h' ws') (h6 : va_P D vwCl ws' H') (h7 : va_D A ws') (h8 : va_S A s.heap H' locs') : zInv rul D cy ad A nL s.heap e lc st h' S ws' H' locs' ls := ⟨hi.1, hi.2.1, hi.2.2.1, h4, h5, h6, h7, h8, hi.2.2.2.2.2.2.2.2⟩
theorem zI_S {S' : zS} (hi : zInv rul D cy ad A nL s.heap e lc st h S ws H locs ls) (hs : zSat rul e S') (hl : S'.1.length = S.1.length) : zInv rul D cy ad A nL s.heap e lc st h S' ws H locs ls := zInv_ext hi (zag_rf _ _) hs (Nat.le_of_eq hl.symm)
/-- on with one more number on the stack, that is there already -/
theorem zk_on {pc' : Nat} (hi : zInv rul D cy ad A nL s.heap e lc st h S ws H locs ls) (ha : zwf S.1.length a) (kk : zNx rul D cy ad A nL p l ev R s m args below meth c cells slots Q S.1.length e pc' lc (a :: st) h S) : W p l ev R s m args below meth c H locs cells slots Q (F0 m pc' ls (zval e ad a :: zst e ad st)) := kk e ws H locs ls (zag_rf _ _) (Nat.le_refl _) (zI_cons hi ha)
theorem zk_go {pc' : Nat} (hi : zInv rul D cy ad A nL s.heap e lc st h S ws H locs ls) (kk : zNx rul D cy ad A nL p l ev R s m args below meth c cells slots Q S.1.length e pc' lc st h S) : W p l ev R s m args below meth c H locs cells slots Q (F0 m pc' ls (zst e ad st)) := kk e ws H locs ls (zag_rf _ _) (Nat.le_refl _) hi
/-- on with a reckoned number -/
theorem zk_res {pc' : Nat} {r : zS × zA} {x : Int32} (hi : zInv rul D cy ad A nL s.heap e lc st h S ws H locs ls) (hr : zres rul e S r x) (kk : zNx rul D cy ad A nL p l ev R s m args below meth c cells slots Q S.1.length e pc' lc (r.2 :: st) h r.1) : W p l ev R s m args below meth c H locs cells slots Q (F0 m pc' ls (.int x :: zst e ad st)) := by
  obtain ⟨e', ag, sat, len, wf, t0, val⟩ := hr
  have hj := zInv_ext hi ag sat len
  have hk := kk e' ws H locs ls ag len (zI_cons hj wf)
  have e1 : zst e' ad (r.2 :: st) = Value.int x :: zst e ad st := by
    show zval e' ad r.2 :: zst e' ad st = _
    rw [zst_ag ag hi.2.2.1, zval_0 t0, val]
  rw [e1] at hk
  exact hk
theorem zk_iload2 (hx : p.tables.exec = Jvm.exec) (hb : c.code = cc) {j : Nat} (hi : zInv rul D cy ad A nL s.heap e lc st h S ws H locs ls) (hg : zget lc j = some a) (ht : a.1 = 0) (hd : decode cc pc = .ok (.iload j, 2))
    (kk : zNx rul D cy ad A nL p l ev R s m args below meth c cells slots Q S.1.length e (pc + 2) lc (a :: st) h S) : W p l ev R s m args below meth c H locs cells slots Q (F0 m pc ls (zst e ad st)) := by
  have hv := zls_get hi.2.2.2.2.2.2.2.2 hg
  rw [zval_0 ht] at hv
  refine lv_iload hx hb hd hv ?_
  rw [← zval_0 (ad := ad) ht]
  exact zk_on hi (hi.2.1 _ (zget_mem hg)) kk
theorem zk_aload (hx : p.tables.exec = Jvm.exec) (hb : c.code = cc) {j : Nat} (hi : zInv rul D cy ad A nL s.heap e lc st h S ws H locs ls) (hg : zget lc j = some a) (ht : a.1 = 2) (hd : ∃ k : Fin 4, (k : Nat) = j ∧ decode cc pc = .ok (.aload_n k, 1))
    (kk : zNx rul D cy ad A nL p l ev R s m args below meth c cells slots Q S.1.length e (pc + 1) lc (a :: st) h S) : W p l ev R s m args below meth c H locs cells slots Q (F0 m pc ls (zst e ad st)) := by
  obtain ⟨k, hk, hd⟩ := hd
  have hv := zls_get hi.2.2.2.2.2.2.2.2 hg
  rw [zval_2 ht] at hv
  refine lv_aload_n hx hb hd hk hv ?_
  rw [← zval_2 (e := e) (ad := ad) ht]
  exact zk_on hi (hi.2.1 _ (zget_mem hg)) kk
theorem zk_aload2 (hx : p.tables.exec = Jvm.exec) (hb : c.code = cc) {j : Nat} (hi : zInv rul D cy ad A nL s.heap e lc st h S ws H locs ls) (hg : zget lc j = some a) (ht : a.1 = 2) (hd : decode cc pc = .ok (.aload j, 2))
    (kk : zNx rul D cy ad A nL p l ev R s m args below meth c cells slots Q S.1.length e (pc + 2) lc (a :: st) h S) : W p l ev R s m args below meth c H locs cells slots Q (F0 m pc ls (zst e ad st)) := by
  have hv := zls_get hi.2.2.2.2.2.2.2.2 hg
  rw [zval_2 ht] at hv
  refine lv_aload hx hb hd hv ?_
  rw [← zval_2 (e := e) (ad := ad) ht]
  exact zk_on hi (hi.2.1 _ (zget_mem hg)) kk
theorem zk_istore (hx : p.tables.exec = Jvm.exec) (hb : c.code = cc) {j : Nat} (hi : zInv rul D cy ad A nL s.heap e lc (a :: st) h S ws H locs ls) (hj : j < nL) (ht : a.1 = 0) (hd : ∃ k : Fin 4, (k : Nat) = j ∧ decode cc pc = .ok (.istore_n k, 1))
    (kk : zNx rul D cy ad A nL p l ev R s m args below meth c cells slots Q S.1.length e (pc + 1) (zput lc j a) st h S) : W p l ev R s m args below meth c H locs cells slots Q (F0 m pc ls (zst e ad (a :: st))) := by
  obtain ⟨k, hk, hd⟩ := hd
  show W p l ev R s m args below meth c H locs cells slots Q (F0 m pc ls (zval e ad a :: zst e ad st))
  have hq := zlv_put e ad lc j a
  rw [zval_0 ht] at hq ⊢
  exact lv_istore_n hx hb hd hk hi.2.2.2.2.2.2.2.2 hj hq fun ls' hl' => kk e ws H locs ls' (zag_rf _ _) (Nat.le_refl _) (zI_lc (zI_tl hi) (zput_wf hi.2.1 (zI_hd hi)) hl')
theorem zk_istore2 (hx : p.tables.exec = Jvm.exec) (hb : c.code = cc) {j : Nat} (hi : zInv rul D cy ad A nL s.heap e lc (a :: st) h S ws H locs ls) (hj : j < nL) (ht : a.1 = 0) (hd : decode cc pc = .ok (.istore j, 2))
    (kk : zNx rul D cy ad A nL p l ev R s m args below meth c cells slots Q S.1.length e (pc + 2) (zput lc j a) st h S) : W p l ev R s m args below meth c H locs cells slots Q (F0 m pc ls (zst e ad (a :: st))) := by
  show W p l ev R s m args below meth c H locs cells slots Q (F0 m pc ls (zval e ad a :: zst e ad st))
  have hq := zlv_put e ad lc j a
  rw [zval_0 ht] at hq ⊢
  exact lv_istore hx hb hd hi.2.2.2.2.2.2.2.2 hj hq fun ls' hl' => kk e ws H locs ls' (zag_rf _ _) (Nat.le_refl _) (zI_lc (zI_tl hi) (zput_wf hi.2.1 (zI_hd hi)) hl')
theorem zk_astore (hx : p.tables.exec = Jvm.exec) (hb : c.code = cc) {j : Nat} (hi : zInv rul D cy ad A nL s.heap e lc (a :: st) h S ws H locs ls) (hj : j < nL) (ht : a.1 = 2) (hd : ∃ k : Fin 4, (k : Nat) = j ∧ decode cc pc = .ok (.astore_n k, 1))
    (kk : zNx rul D cy ad A nL p l ev R s m args below meth c cells slots Q S.1.length e (pc + 1) (zput lc j a) st h S) : W p l ev R s m args below meth c H locs cells slots Q (F0 m pc ls (zst e ad (a :: st))) := by
  obtain ⟨k, hk, hd⟩ := hd
  show W p l ev R s m args below meth c H locs cells slots Q (F0 m pc ls (zval e ad a :: zst e ad st))
  have hq := zlv_put e ad lc j a
  rw [zval_2 ht] at hq ⊢
  exact lv_astore_n hx hb hd hk hi.2.2.2.2.2.2.2.2 hj hq fun ls' hl' => kk e ws H locs ls' (zag_rf _ _) (Nat.le_refl _) (zI_lc (zI_tl hi) (zput_wf hi.2.1 (zI_hd hi)) hl')
theorem zk_astore2 (hx : p.tables.exec = Jvm.exec) (hb : c.code = cc) {j : Nat} (hi : zInv rul D cy ad A nL s.heap e lc (a :: st) h S ws H locs ls) (hj : j < nL) (ht : a.1 = 2) (hd : decode cc pc = .ok (.astore j, 2))
    (kk : zNx rul D cy ad A nL p l ev R s m args below meth c cells slots Q S.1.length e (pc + 2) (zput lc j a) st h S) : W p l ev R s m args below meth c H locs cells slots Q (F0 m pc ls (zst e ad (a :: st))) := by
  show W p l ev R s m args below meth c H locs cells slots Q (F0 m pc ls (zval e ad a :: zst e ad st))
  have hq := zlv_put e ad lc j a
  rw [zval_2 ht] at hq ⊢
  exact lv_astore hx hb hd hi.2.2.2.2.2.2.2.2 hj hq fun ls' hl' => kk e ws H locs ls' (zag_rf _ _) (Nat.le_refl _) (zI_lc (zI_tl hi) (zput_wf hi.2.1 (zI_hd hi)) hl')
theorem zv_c (e : Nat → Int) (n : Int) : zv e (0, 0, 0, n) = n := by unfold zv; simp
theorem zk_const {pc' : Nat} {n : Int} (hi : zInv rul D cy ad A nL s.heap e lc st h S ws H locs ls) (kk : zNx rul D cy ad A nL p l ev R s m args below meth c cells slots Q S.1.length e pc' lc ((0, 0, 0, n) :: st) h S) : W p l ev R s m args below meth c H locs cells slots Q (F0 m pc' ls (.int (Int32.ofInt n) :: zst e ad st)) := by
  have hk := zk_on (a := (0, 0, 0, n)) hi (Or.inl rfl) kk
  rw [zval_0 rfl, zv_c] at hk
  exact hk
theorem zk_iconst (hx : p.tables.exec = Jvm.exec) (hb : c.code = cc) {n : Int} (hi : zInv rul D cy ad A nL s.heap e lc st h S ws H locs ls) (hd : decode cc pc = .ok (.iconst n, 1))
    (kk : zNx rul D cy ad A nL p l ev R s m args below meth c cells slots Q S.1.length e (pc + 1) lc ((0, 0, 0, n) :: st) h S) : W p l ev R s m args below meth c H locs cells slots Q (F0 m pc ls (zst e ad st)) := lv_iconst hx hb hd rfl (zk_const hi kk)
theorem zk_bipush (hx : p.tables.exec = Jvm.exec) (hb : c.code = cc) {n : Int} (hi : zInv rul D cy ad A nL s.heap e lc st h S ws H locs ls) (hd : decode cc pc = .ok (.bipush n, 2)) (hn : (Int8.ofInt n).toInt32 = Int32.ofInt n)
    (kk : zNx rul D cy ad A nL p l ev R s m args below meth c cells slots Q S.1.length e (pc + 2) lc ((0, 0, 0, n) :: st) h S) : W p l ev R s m args below meth c H locs cells slots Q (F0 m pc ls (zst e ad st)) := lv_bipush hx hb hd hn (zk_const hi kk)
theorem zk_sipush (hx : p.tables.exec = Jvm.exec) (hb : c.code = cc) {n : Int} (hi : zInv rul D cy ad A nL s.heap e lc st h S ws H locs ls) (hd : decode cc pc = .ok (.sipush n, 3)) (hn : (Int16.ofInt n).toInt32 = Int32.ofInt n)
    (kk : zNx rul D cy ad A nL p l ev R s m args below meth c cells slots Q S.1.length e (pc + 3) lc ((0, 0, 0, n) :: st) h S) : W p l ev R s m args below meth c H locs cells slots Q (F0 m pc ls (zst e ad st)) := lv_sipush hx hb hd hn (zk_const hi kk)
theorem zst2 {ad : Nat → Nat} (ha : a.1 = 0) (hb : b.1 = 0) : zst e ad (b :: a :: st) = Value.int (Int32.ofInt (zv e b)) :: Value.int (Int32.ofInt (zv e a)) :: zst e ad st := by
  show zval e ad b :: zval e ad a :: zst e ad st = _
  rw [zval_0 ha, zval_0 hb]
theorem zk_iadd (hx : p.tables.exec = Jvm.exec) (hb : c.code = cc) (hi : zInv rul D cy ad A nL s.heap e lc (b :: a :: st) h S ws H locs ls) (ha : a.1 = 0) (hb0 : b.1 = 0) (hd : decode cc pc = .ok (.iadd, 1))
    (kk : zNx rul D cy ad A nL p l ev R s m args below meth c cells slots Q S.1.length e (pc + 1) lc ((zadd S a b).2 :: st) h (zadd S a b).1) : W p l ev R s m args below meth c H locs cells slots Q (F0 m pc ls (zst e ad (b :: a :: st))) := by
  rw [zst2 ha hb0]
  exact lv_iadd hx hb hd (zk_res (zI_tl (zI_tl hi)) (zadd_ok hi.1) kk)
theorem zk_isub (hx : p.tables.exec = Jvm.exec) (hb : c.code = cc) (hi : zInv rul D cy ad A nL s.heap e lc (b :: a :: st) h S ws H locs ls) (ha : a.1 = 0) (hb0 : b.1 = 0) (hd : decode cc pc = .ok (.isub, 1))
    (kk : zNx rul D cy ad A nL p l ev R s m args below meth c cells slots Q S.1.length e (pc + 1) lc ((zsub S a b).2 :: st) h (zsub S a b).1) : W p l ev R s m args below meth c H locs cells slots Q (F0 m pc ls (zst e ad (b :: a :: st))) := by
  rw [zst2 ha hb0]
  exact lv_isub hx hb hd (zk_res (zI_tl (zI_tl hi)) (zsub_ok hi.1) kk)
theorem zk_imul (hx : p.tables.exec = Jvm.exec) (hb : c.code = cc) (hi : zInv rul D cy ad A nL s.heap e lc (b :: a :: st) h S ws H locs ls) (ha : a.1 = 0) (hb0 : b.1 = 0) (hd : decode cc pc = .ok (.imul, 1))
    (kk : zNx rul D cy ad A nL p l ev R s m args below meth c cells slots Q S.1.length e (pc + 1) lc ((zmul S a b).2 :: st) h (zmul S a b).1) : W p l ev R s m args below meth c H locs cells slots Q (F0 m pc ls (zst e ad (b :: a :: st))) := by
  rw [zst2 ha hb0]
  exact lv_imul hx hb hd (zk_res (zI_tl (zI_tl hi)) (zmul_ok hi.1) kk)
theorem zk_irem (hx : p.tables.exec = Jvm.exec) (hb : c.code = cc) {r : zS × zA} (hi : zInv rul D cy ad A nL s.heap e lc (b :: a :: st) h S ws H locs ls) (ha : a.1 = 0) (hb0 : b.1 = 0) (hr : zrem S a b = some r) (hd : decode cc pc = .ok (.irem, 1))
    (kk : zNx rul D cy ad A nL p l ev R s m args below meth c cells slots Q S.1.length e (pc + 1) lc (r.2 :: st) h r.1) : W p l ev R s m args below meth c H locs cells slots Q (F0 m pc ls (zst e ad (b :: a :: st))) := by
  rw [zst2 ha hb0]
  obtain ⟨h0, h1⟩ := zrem_ok hi.1 hr
  exact lv_irem hx hb hd h0 (zk_res (zI_tl (zI_tl hi)) h1 kk)
theorem zk_iinc (hx : p.tables.exec = Jvm.exec) (hb : c.code = cc) {j : Nat} {n : Int} (hi : zInv rul D cy ad A nL s.heap e lc st h S ws H locs ls) (hg : zget lc j = some a) (ht : a.1 = 0) (hj : j < nL) (hd : decode cc pc = .ok (.iinc j n, 3))
    (kk : zNx rul D cy ad A nL p l ev R s m args below meth c cells slots Q S.1.length e (pc + 3) (zput lc j (zadd S a (0, 0, 0, n)).2) st h (zadd S a (0, 0, 0, n)).1) : W p l ev R s m args below meth c H locs cells slots Q (F0 m pc ls (zst e ad st)) := by
  obtain ⟨e', ag, sat, len, wf, t0, val⟩ := zadd_ok (a := a) (b := (0, 0, 0, n)) hi.1
  rw [zv_c] at val
  obtain ⟨k, hk⟩ := List.getElem?_of_mem (zlv_mem (e := e) (ad := ad) hg)
  rw [zval_0 ht] at hk
  have hq := zlv_put e ad lc j (zadd S a (0, 0, 0, n)).2
  have hji := zInv_ext hi ag sat len
  refine lv_iinc hx hb hd hi.2.2.2.2.2.2.2.2 hk rfl hj rfl fun ls' hl' => ?_
  have hl2 : lv_has ls' nL (zlv e' ad (zput lc j (zadd S a (0, 0, 0, n)).2)) := by
    have hq2 := zlv_put e' ad lc j (zadd S a (0, 0, 0, n)).2
    rw [zval_0 t0, val, zlv_ag ag hi.2.1] at hq2
    rw [← hq2]
    exact hl'
  have hk2 := kk e' ws H locs ls' ag len (zI_lc hji (zput_wf hji.2.1 wf) hl2)
  rw [zst_ag ag hi.2.2.1] at hk2
  exact hk2
theorem zk_goto (hx : p.tables.exec = Jvm.exec) (hb : c.code = cc) {off : Int} {tgt : Nat} (hi : zInv rul D cy ad A nL s.heap e lc st h S ws H locs ls) (ht : (pc : Int) + off = (tgt : Int)) (hd : decode cc pc = .ok (.goto off, 3))
    (kk : zNx rul D cy ad A nL p l ev R s m args below meth c cells slots Q S.1.length e tgt lc st h S) : W p l ev R s m args below meth c H locs cells slots Q (F0 m pc ls (zst e ad st)) := lv_goto hx hb hd ht (zk_go hi kk)
theorem zk_dup (hx : p.tables.exec = Jvm.exec) (hb : c.code = cc) (hi : zInv rul D cy ad A nL s.heap e lc (a :: st) h S ws H locs ls) (ht : ¬ a.1 = 1) (hd : decode cc pc = .ok (.dup, 1))
    (kk : zNx rul D cy ad A nL p l ev R s m args below meth c cells slots Q S.1.length e (pc + 1) lc (a :: a :: st) h S) : W p l ev R s m args below meth c H locs cells slots Q (F0 m pc ls (zst e ad (a :: st))) := lv_dup hx hb hd (zval_c1 e ad ht) (zk_on hi (zI_hd hi) kk)
theorem zk_dup2 (hx : p.tables.exec = Jvm.exec) (hb : c.code = cc) (hi : zInv rul D cy ad A nL s.heap e lc (b :: a :: st) h S ws H locs ls) (ha : ¬ a.1 = 1) (hb0 : ¬ b.1 = 1) (hd : decode cc pc = .ok (.dup2, 1))
    (kk : zNx rul D cy ad A nL p l ev R s m args below meth c cells slots Q S.1.length e (pc + 1) lc (b :: a :: b :: a :: st) h S) : W p l ev R s m args below meth c H locs cells slots Q (F0 m pc ls (zst e ad (b :: a :: st))) := lv_dup2_11 hx hb hd (zval_c1 e ad hb0) (zval_c1 e ad ha) (zk_go (zI_cons (zI_cons hi (zI_hd (zI_tl hi))) (zI_hd hi)) kk)
theorem zk_pop (hx : p.tables.exec = Jvm.exec) (hb : c.code = cc) (hi : zInv rul D cy ad A nL s.heap e lc (a :: st) h S ws H locs ls) (ht : ¬ a.1 = 1) (hd : decode cc pc = .ok (.pop, 1))
    (kk : zNx rul D cy ad A nL p l ev R s m args below meth c cells slots Q S.1.length e (pc + 1) lc st h S) : W p l ev R s m args below meth c H locs cells slots Q (F0 m pc ls (zst e ad (a :: st))) := lv_pop hx hb hd (zval_c1 e ad ht) (zk_go (zI_tl hi) kk)
/-- a comparison that holds: on with what it says -/
theorem zk_br {op : Nat} {tgt : Nat} (hi : zInv rul D cy ad A nL s.heap e lc st h S ws H locs ls) (ha : zwf S.1.length a) (hb0 : zwf S.1.length b) (hr : zrel op (zv e a) (zv e b))
    (kk : ∀ L' : List zI, zref op S.1 a b = some L' → zNx rul D cy ad A nL p l ev R s m args below meth c cells slots Q S.1.length e tgt lc st h (L', zfact op a b ++ S.2.1, S.2.2)) : W p l ev R s m args below meth c H locs cells slots Q (F0 m tgt ls (zst e ad st)) := by
  obtain ⟨L', e1, h1, l1⟩ := zref_ok op hi.1.1 hr
  have hs : zSat rul e (L', zfact op a b ++ S.2.1, S.2.2) := by
    have h2 := zSat_fact (F := zfact op a b) hi.1 (fun q hq => by
      obtain ⟨q1, q2⟩ := zfact_ok op hr q hq
      rcases q1 with q1 | q1
      · rw [q1] at q2 ⊢
        exact ⟨ha, hb0, q2⟩
      · rw [q1] at q2 ⊢
        exact ⟨hb0, ha, q2⟩)
    exact zSat_ref h2 h1 l1
  exact kk L' e1 e ws H locs ls (zag_rf _ _) (Nat.le_of_eq l1.symm) (zI_S hi hs l1)
end ZW
end
section
/-! ===== relations of an array's places: reading and writing ===== -/
def zmx1 (i : zI) : zI := (if i.1 ≤ 1 then 1 else i.1, i.2)
/-- the bounds of what is read -/
def zrb (rr : Nat) (S : zS) (fs : List zA) (b : zA) (i : zI) : zI :=
  if rr = 1 then (match fs with
    | [p, w] => if b.2.1 = p.2.1 ∧ b.2.2.1 = p.2.2.1 ∧ 0 ≤ b.2.2.2 - p.2.2.2 - 1 ∧ b.2.2.2 - p.2.2.2 - 1 < 3 ∧ zin S.1 w (b.2.2.2 - p.2.2.2) 2147483647 = true then zmx1 i else i
    | _ => i)
  else if rr = 2 then (match fs with
    | [n] => if b.2.1 = 0 ∧ 0 ≤ b.2.2.2 ∧ b.2.2.2 < 3 ∧ zin S.1 n (b.2.2.2 + 1) 2147483647 = true then zmx1 i else i
    | _ => i)
  else i
theorem zmx1_ok {i : zI} {x : Int} (h : i.1 ≤ x ∧ x ≤ i.2) (h1 : 1 ≤ x) : (zmx1 i).1 ≤ x ∧ x ≤ (zmx1 i).2 := by
  unfold zmx1
  by_cases c : i.1 ≤ 1
  · simp only [if_pos c]; exact ⟨h1, h.2⟩
  · simp only [if_neg c]; exact h
theorem zX_1 {f : Nat → Int32} {vs : List Int} (h : zX 1 f vs) : zX1 f vs := by unfold zX at h; simpa using h
theorem zX_2 {f : Nat → Int32} {vs : List Int} (h : zX 2 f vs) : zX2 f vs := by unfold zX at h; simpa using h
theorem zX_1i {f : Nat → Int32} {vs : List Int} (h : zX1 f vs) : zX 1 f vs := by unfold zX; simpa using h
theorem zX_2i {f : Nat → Int32} {vs : List Int} (h : zX2 f vs) : zX 2 f vs := by unfold zX; simpa using h
theorem zX_o {rr : Nat} {f : Nat → Int32} {vs : List Int} (h1 : ¬ rr = 1) (h2 : ¬ rr = 2) : zX rr f vs := by
  unfold zX
  rw [if_neg h1, if_neg h2]
  exact True.intro
theorem zrb_ok {rr j : Nat} {S : zS} {e : Nat → Int} {fs : List zA} {b : zA} {i : zI} {f : Nat → Int32} (hs : zS1 e S.1) (hx : zX rr f (fs.map (zv e))) (hj : (j : Int) = zv e b) (hi : i.1 ≤ (f j).toInt ∧ (f j).toInt ≤ i.2) : (zrb rr S fs b i).1 ≤ (f j).toInt ∧ (f j).toInt ≤ (zrb rr S fs b i).2 := by
  unfold zrb
  by_cases r1 : rr = 1
  · subst r1
    rw [if_pos rfl]
    have hx := zX_1 hx
    match fs, hx with
    | [], _ => exact hi
    | [_], _ => exact hi
    | [p, w], hx =>
      by_cases c : b.2.1 = p.2.1 ∧ b.2.2.1 = p.2.2.1 ∧ 0 ≤ b.2.2.2 - p.2.2.2 - 1 ∧ b.2.2.2 - p.2.2.2 - 1 < 3 ∧ zin S.1 w (b.2.2.2 - p.2.2.2) 2147483647 = true
      · simp only [if_pos c]
        obtain ⟨c1, c2, c3, c4, c5⟩ := c
        obtain ⟨hp, r, hr, hw⟩ := (show zPw f (-1) ∧ ∃ r : Nat, zv e p = ((13 * r + 9 : Nat) : Int) ∧ (f (13 * r + 9)).toInt = zv e w from hx)
        have hz := (zin_ok hs c5).1
        have e1 : zv e b = zv e p + (b.2.2.2 - p.2.2.2) := by unfold zv; rw [c1, c2]; omega
        obtain ⟨k, hk⟩ : ∃ k : Nat, (k : Int) = b.2.2.2 - p.2.2.2 - 1 := ⟨(b.2.2.2 - p.2.2.2 - 1).toNat, Int.toNat_of_nonneg c3⟩
        have hjk : j = 13 * r + 10 + k := by omega
        refine zmx1_ok hi ?_
        rcases hp r k (by omega) (by omega) with h9 | h9
        · omega
        · rw [hjk]; exact h9
      · simp only [if_neg c]
        exact hi
    | _ :: _ :: _ :: _, _ => exact hi
  · rw [if_neg r1]
    by_cases r2 : rr = 2
    · subst r2
      rw [if_pos rfl]
      have hx := zX_2 hx
      match fs, hx with
      | [], _ => exact hi
      | [n], hx =>
        by_cases c : b.2.1 = 0 ∧ 0 ≤ b.2.2.2 ∧ b.2.2.2 < 3 ∧ zin S.1 n (b.2.2.2 + 1) 2147483647 = true
        · simp only [if_pos c]
          obtain ⟨c1, c2, c3, c4⟩ := c
          have hz := (zin_ok hs c4).1
          have e1 : zv e b = b.2.2.2 := by unfold zv; rw [c1]; simp
          exact zmx1_ok hi ((show ∀ k : Nat, k < 3 → (k : Int) < zv e n → 1 ≤ (f k).toInt from hx) j (by omega) (by omega))
        · simp only [if_neg c]
          exact hi
      | _ :: _ :: _, _ => exact hi
    · rw [if_neg r2]
      exact hi
/-- what is known behind a read -/
def zrp (rr : Nat) (b v : zA) (fs : List zA) : List zA := if rr = 1 ∧ fs.length < 3 ∧ b.2.1 % 13 = 0 ∧ b.2.2.2 % 13 = 9 then [b, v] else fs
theorem z13 {e : Nat → Int} {b : zA} {j : Nat} (hj : (j : Int) = zv e b) (h : b.2.1 % 13 = 0) : ((j % 13 : Nat) : Int) = b.2.2.2 % 13 := by
  have := zidx (n := 13) (k := b.2.1) (v := e b.2.2.1) (c := b.2.2.2) hj h
  rw [this]
  exact Int.toNat_of_nonneg (Int.emod_nonneg _ (by decide))
theorem zX1_pw {f : Nat → Int32} {vs : List Int} (h : zX1 f vs) (hl : vs.length < 3) : zPw f (-1) := by
  match vs, h, hl with
  | [], h, _ => exact h
  | [_], h, _ => exact h.elim
  | [_, _], h, _ => exact h.1
  | _ :: _ :: _ :: _, _, hl => simp at hl; omega
theorem zrp_ok {rr j : Nat} {e : Nat → Int} {fs : List zA} {b v : zA} {f : Nat → Int32} (hx : zX rr f (fs.map (zv e))) (hj : (j : Int) = zv e b) (hv : zv e v = (f j).toInt) : zX rr f ((zrp rr b v fs).map (zv e)) := by
  unfold zrp
  by_cases c : rr = 1 ∧ fs.length < 3 ∧ b.2.1 % 13 = 0 ∧ b.2.2.2 % 13 = 9
  · rw [if_pos c]
    obtain ⟨rfl, c1, c2, c3⟩ := c
    have h13 := z13 hj c2
    refine zX_1i (show zPw f (-1) ∧ ∃ r : Nat, zv e b = ((13 * r + 9 : Nat) : Int) ∧ (f (13 * r + 9)).toInt = zv e v from ⟨zX1_pw (zX_1 hx) (by rw [List.length_map]; exact c1), j / 13, by omega, ?_⟩)
    rw [hv]
    congr 2
    omega
  · rw [if_neg c]
    exact hx
theorem zrp_wf {n rr : Nat} {b v : zA} {fs : List zA} (h : ∀ a ∈ fs, zwf n a) (hb : zwf n b) (hv : zwf n v) : ∀ a ∈ zrp rr b v fs, zwf n a := by
  unfold zrp
  intro a ha
  split at ha
  · rcases List.mem_cons.mp ha with rfl | ha
    · exact hb
    · rw [List.mem_singleton.mp ha]; exact hv
  · exact h a ha
/-- what is known behind a write -/
def zwp (rr : Nat) (S : zS) (b d : zA) (fs : List zA) : Option (List zA) :=
  if rr = 1 then (if b.2.1 % 13 = 0 then
      (if b.2.2.2 % 13 < 9 then some fs
      else if b.2.2.2 % 13 = 9 then (if fs.length < 3 ∧ z32 S.1 d = true then some [b, d, (0, 0, 0, 0)] else none)
      else match fs with
        | [p, w, j] => if j.2.1 = 0 ∧ 0 ≤ j.2.2.2 ∧ j.2.2.2 < 3 ∧ b.2.1 = p.2.1 ∧ b.2.2.1 = p.2.2.1 ∧ b.2.2.2 = p.2.2.2 + 1 + j.2.2.2 ∧ zin S.1 d 1 2147483647 = true then some [p, w, (0, 0, 0, j.2.2.2 + 1)] else none
        | _ => none) else none)
  else if rr = 2 then (match fs with
    | [n] => if b.2.1 = n.2.1 ∧ b.2.2.1 = n.2.2.1 ∧ b.2.2.2 = n.2.2.2 ∧ zin S.1 d 1 2147483647 = true then some [(0, n.2.1, n.2.2.1, n.2.2.2 + 1)] else none
    | _ => none)
  else some fs
theorem zwp_ok {rr j : Nat} {S : zS} {e : Nat → Int} {fs fs' : List zA} {b d : zA} {f g : Nat → Int32} (hs : zS1 e S.1) (hx : zX rr f (fs.map (zv e))) (hj : (j : Int) = zv e b) (h : zwp rr S b d fs = some fs') (hg : g j = Int32.ofInt (zv e d)) (hn : ∀ i, ¬ i = j → g i = f i) : zX rr g (fs'.map (zv e)) := by
  unfold zwp at h
  by_cases r1 : rr = 1
  · subst r1
    rw [if_pos rfl] at h
    have hx := zX_1 hx
    refine zX_1i ?_
    by_cases c0 : b.2.1 % 13 = 0
    · rw [if_pos c0] at h
      have h13 := z13 hj c0
      by_cases c1 : b.2.2.2 % 13 < 9
      · rw [if_pos c1] at h
        cases h
        have hpw : ∀ q : Int, zPw f q → zPw g q := fun q hq r k hk hr => by
          rw [hn _ (by omega), hn _ (by omega)]
          exact hq r k hk hr
        match fs, hx with
        | [], hx => exact hpw _ hx
        | [_], hx => exact hx.elim
        | [p, w], hx =>
          obtain ⟨hp, r, hr, hw⟩ := (show zPw f (-1) ∧ ∃ r : Nat, zv e p = ((13 * r + 9 : Nat) : Int) ∧ (f (13 * r + 9)).toInt = zv e w from hx)
          exact (show zPw g (-1) ∧ ∃ r : Nat, zv e p = ((13 * r + 9 : Nat) : Int) ∧ (g (13 * r + 9)).toInt = zv e w from ⟨hpw _ hp, r, hr, by rw [hn _ (by omega)]; exact hw⟩)
        | [p, w, q], hx =>
          obtain ⟨r, hr, hp, hw, hk⟩ := (show ∃ r : Nat, zv e p = ((13 * r + 9 : Nat) : Int) ∧ zPw f (zv e p) ∧ (f (13 * r + 9)).toInt = zv e w ∧ ∀ k : Nat, k < 3 → (k : Int) < zv e q → 1 ≤ (f (13 * r + 10 + k)).toInt from hx)
          exact (show ∃ r : Nat, zv e p = ((13 * r + 9 : Nat) : Int) ∧ zPw g (zv e p) ∧ (g (13 * r + 9)).toInt = zv e w ∧ ∀ k : Nat, k < 3 → (k : Int) < zv e q → 1 ≤ (g (13 * r + 10 + k)).toInt from ⟨r, hr, hpw _ hp, by rw [hn _ (by omega)]; exact hw, fun k k3 kq => by rw [hn _ (by omega)]; exact hk k k3 kq⟩)
        | _ :: _ :: _ :: _ :: _, hx => exact hx.elim
      · rw [if_neg c1] at h
        by_cases c2 : b.2.2.2 % 13 = 9
        · rw [if_pos c2] at h
          by_cases c3 : fs.length < 3 ∧ z32 S.1 d = true
          · rw [if_pos c3] at h
            cases h
            have hp := zX1_pw hx (by rw [List.length_map]; exact c3.1)
            have hz : (Int32.ofInt (zv e d)).toInt = zv e d := z32_i (zin_ok hs c3.2)
            have hj9 : j = 13 * (j / 13) + 9 := by omega
            refine (show ∃ r : Nat, zv e b = ((13 * r + 9 : Nat) : Int) ∧ zPw g (zv e b) ∧ (g (13 * r + 9)).toInt = zv e d ∧ ∀ k : Nat, k < 3 → (k : Int) < zv e (0, 0, 0, 0) → 1 ≤ (g (13 * r + 10 + k)).toInt from ⟨j / 13, by omega, fun r k hk hr => ?_, by rw [← hj9, hg, hz], fun k _ hk => ?_⟩)
            · rw [hn _ (by omega), hn _ (by omega)]
              exact hp r k hk (by omega)
            · have : zv e (0, 0, 0, 0) = 0 := by unfold zv; simp
              omega
          · rw [if_neg c3] at h
            cases h
        · rw [if_neg c2] at h
          match fs, hx, h with
          | [], _, h => cases h
          | [_], _, h => cases h
          | [_, _], _, h => cases h
          | _ :: _ :: _ :: _ :: _, _, h => cases h
          | [p, w, q], hx, h =>
            simp only at h
            by_cases c4 : q.2.1 = 0 ∧ 0 ≤ q.2.2.2 ∧ q.2.2.2 < 3 ∧ b.2.1 = p.2.1 ∧ b.2.2.1 = p.2.2.1 ∧ b.2.2.2 = p.2.2.2 + 1 + q.2.2.2 ∧ zin S.1 d 1 2147483647 = true
            · rw [if_pos c4] at h
              cases h
              obtain ⟨q1, q2, q3, q4, q5, q6, q7⟩ := c4
              obtain ⟨r, hr, hp, hw, hk⟩ := (show ∃ r : Nat, zv e p = ((13 * r + 9 : Nat) : Int) ∧ zPw f (zv e p) ∧ (f (13 * r + 9)).toInt = zv e w ∧ ∀ k : Nat, k < 3 → (k : Int) < zv e q → 1 ≤ (f (13 * r + 10 + k)).toInt from hx)
              have e1 : zv e b = zv e p + (1 + q.2.2.2) := by unfold zv; rw [q4, q5, q6]; omega
              have e2 : zv e q = q.2.2.2 := by unfold zv; rw [q1]; simp
              have e3 : zv e (0, 0, 0, q.2.2.2 + 1) = q.2.2.2 + 1 := by unfold zv; simp
              have hd := zin_ok hs q7
              have hz : (Int32.ofInt (zv e d)).toInt = zv e d := z32_i ⟨by omega, by omega⟩
              refine (show ∃ r : Nat, zv e p = ((13 * r + 9 : Nat) : Int) ∧ zPw g (zv e p) ∧ (g (13 * r + 9)).toInt = zv e w ∧ ∀ k : Nat, k < 3 → (k : Int) < zv e (0, 0, 0, q.2.2.2 + 1) → 1 ≤ (g (13 * r + 10 + k)).toInt from ⟨r, hr, fun r2 k2 hk2 hr2 => ?_, by rw [hn _ (by omega)]; exact hw, fun k k3 kq => ?_⟩)
              · rw [hn _ (by omega), hn _ (by omega)]
                exact hp r2 k2 hk2 hr2
              · by_cases hkj : 13 * r + 10 + k = j
                · rw [hkj, hg, hz]
                  exact hd.1
                · rw [hn _ hkj]
                  exact hk k k3 (by omega)
            · rw [if_neg c4] at h
              cases h
    · rw [if_neg c0] at h
      cases h
  · rw [if_neg r1] at h
    by_cases r2 : rr = 2
    · subst r2
      rw [if_pos rfl] at h
      have hx := zX_2 hx
      refine zX_2i ?_
      match fs, hx, h with
      | [], _, h => cases h
      | _ :: _ :: _, _, h => cases h
      | [n], hx, h =>
        simp only at h
        by_cases c4 : b.2.1 = n.2.1 ∧ b.2.2.1 = n.2.2.1 ∧ b.2.2.2 = n.2.2.2 ∧ zin S.1 d 1 2147483647 = true
        · rw [if_pos c4] at h
          cases h
          obtain ⟨q1, q2, q3, q4⟩ := c4
          have hd := zin_ok hs q4
          have hz : (Int32.ofInt (zv e d)).toInt = zv e d := z32_i ⟨by omega, by omega⟩
          have e1 : zv e b = zv e n := by unfold zv; rw [q1, q2, q3]
          have e2 : zv e (0, n.2.1, n.2.2.1, n.2.2.2 + 1) = zv e n + 1 := by unfold zv; simp only; omega
          refine (show ∀ k : Nat, k < 3 → (k : Int) < zv e (0, n.2.1, n.2.2.1, n.2.2.2 + 1) → 1 ≤ (g k).toInt from fun k k3 kn => ?_)
          by_cases hkj : k = j
          · rw [hkj, hg, hz]
            exact hd.1
          · rw [hn _ hkj]
            exact (show ∀ k : Nat, k < 3 → (k : Int) < zv e n → 1 ≤ (f k).toInt from hx) k k3 (by omega)
        · rw [if_neg c4] at h
          cases h
    · exact zX_o r1 r2
theorem zwp_wf {n rr : Nat} {S : zS} {b d : zA} {fs fs' : List zA} (h : zwp rr S b d fs = some fs') (hf : ∀ a ∈ fs, zwf n a) (hb : zwf n b) (hd : zwf n d) : ∀ a ∈ fs', zwf n a := by
  unfold zwp at h
  by_cases r1 : rr = 1
  · rw [if_pos r1] at h
    by_cases c0 : b.2.1 % 13 = 0
    · rw [if_pos c0] at h
      by_cases c1 : b.2.2.2 % 13 < 9
      · rw [if_pos c1] at h
        cases h
        exact hf
      · rw [if_neg c1] at h
        by_cases c2 : b.2.2.2 % 13 = 9
        · rw [if_pos c2] at h
          split at h
          · cases h
            intro a ha
            rcases List.mem_cons.mp ha with rfl | ha
            · exact hb
            · rcases List.mem_cons.mp ha with rfl | ha
              · exact hd
              · rw [List.mem_singleton.mp ha]; exact Or.inl rfl
          · cases h
        · rw [if_neg c2] at h
          split at h
          · rename_i p w j
            split at h
            · cases h
              intro a ha
              rcases List.mem_cons.mp ha with rfl | ha
              · exact hf _ List.mem_cons_self
              · rcases List.mem_cons.mp ha with rfl | ha
                · exact hf _ (List.mem_cons_of_mem _ List.mem_cons_self)
                · rw [List.mem_singleton.mp ha]; exact Or.inl rfl
            · cases h
          · cases h
    · rw [if_neg c0] at h
      cases h
  · rw [if_neg r1] at h
    by_cases r2 : rr = 2
    · rw [if_pos r2] at h
      split at h
      · rename_i n9
        split at h
        · cases h
          intro a ha
          rw [List.mem_singleton.mp ha]
          exact hf n9 (List.mem_singleton.mpr rfl)
        · cases h
      · cases h
    · rw [if_neg r2] at h
      cases h
      exact hf
/-- a pattern that says less -/
def zxle (S : zS) (rr : Nat) (fc fd : List zA) : Bool :=
  if rr = 1 then decide (fc = []) && (match fd with
    | [] => true
    | [_, _] => true
    | [_, w, j] => decide (j.2.1 = 0) && zin S.1 w (-2147483648) j.2.2.2
    | _ => false)
  else if rr = 2 then decide (fc = [(0, 0, 0, 0)]) else false
theorem zxle_ok {S : zS} {rr : Nat} {e : Nat → Int} {fc fd : List zA} {f : Nat → Int32} (hs : zS1 e S.1) (h : zxle S rr fc fd = true) (hx : zX rr f (fd.map (zv e))) : zX rr f (fc.map (zv e)) := by
  unfold zxle at h
  by_cases r1 : rr = 1
  · subst r1
    rw [if_pos rfl] at h
    simp only [Bool.and_eq_true, decide_eq_true_eq] at h
    obtain ⟨rfl, h⟩ := h
    have hx := zX_1 hx
    refine zX_1i (show zPw f (-1) from ?_)
    match fd, hx, h with
    | [], hx, _ => exact hx
    | [_], hx, _ => exact hx.elim
    | [_, _], hx, _ => exact hx.1
    | _ :: _ :: _ :: _ :: _, hx, _ => exact hx.elim
    | [p, w, j], hx, h =>
      simp only [Bool.and_eq_true, decide_eq_true_eq] at h
      obtain ⟨r, hr, hp, hw, hk⟩ := (show ∃ r : Nat, zv e p = ((13 * r + 9 : Nat) : Int) ∧ zPw f (zv e p) ∧ (f (13 * r + 9)).toInt = zv e w ∧ ∀ k : Nat, k < 3 → (k : Int) < zv e j → 1 ≤ (f (13 * r + 10 + k)).toInt from hx)
      have e2 : zv e j = j.2.2.2 := by unfold zv; rw [h.1]; simp
      have hz := (zin_ok hs h.2).2
      intro r2 k2 hk2 hr2
      by_cases hrr : r2 = r
      · subst hrr
        by_cases hkj : (k2 : Int) < zv e j
        · exact Or.inr (hk k2 hk2 hkj)
        · exact Or.inl (by omega)
      · exact hp r2 k2 hk2 (by omega)
  · rw [if_neg r1] at h
    by_cases r2 : rr = 2
    · subst r2
      rw [if_pos rfl] at h
      rw [of_decide_eq_true h]
      refine zX_2i (show ∀ k : Nat, k < 3 → (k : Int) < zv e (0, 0, 0, 0) → 1 ≤ (f k).toInt from fun k _ hk => ?_)
      have : zv e (0, 0, 0, 0) = 0 := by unfold zv; simp
      omega
    · rw [if_neg r2] at h
      cases h
end
section
/-! ===== branches, fields, arrays ===== -/
def zcnd (op : Nat) : ClassFile.Cond := match op with
  | 0 => .eq
  | 1 => .ne
  | 2 => .lt
  | 3 => .ge
  | 4 => .gt
  | _ => .le
theorem zset_self {α : Type} {l : List α} {i : Nat} {x : α} (h : l[i]? = some x) : l.set i x = l := by
  apply List.ext_getElem?
  intro j
  by_cases hij : i = j
  · subst hij
    rw [List.getElem?_set_self (List.getElem?_eq_some_iff.mp h).1, h]
  · rw [List.getElem?_set_ne hij]
theorem zi0 : (0 : Int32) = Int32.ofInt 0 := by decide
section ZW
variable {rul : Nat → List zI} {D : va_G} {cy : Nat → ClassId} {ad : Nat → Nat} {A : Nat → Prop} {nL : Nat} {e : Nat → Int} {lc : zL} {st : List zA} {h : List zC} {S : zS} {ws : va_W} {H : Heap} {locs : List Loc} {ls : Array Slot}
variable {p : Program} {l : Launch} {ev : Env} {R : Room} {s : State} {m : MethodId} {args : Array Value} {below : List Frame} {meth : Method} {c : Code} {cells slots : Nat} {Q : State → Prop} {cc : ByteArray} {pc : Nat} {a b : zA}
theorem zk_icmp (op : Nat) (hx : p.tables.exec = Jvm.exec) (hb : c.code = cc) {off : Int} {tgt : Nat} (hi : zInv rul D cy ad A nL s.heap e lc (b :: a :: st) h S ws H locs ls) (ha : a.1 = 0) (hb0 : b.1 = 0) (ha2 : z32 S.1 a = true) (hb2 : z32 S.1 b = true) (hd : decode cc pc = .ok (.if_icmp (zcnd op) off, 3)) (ht : (pc : Int) + off = (tgt : Int))
    (kt : ∀ L' : List zI, zref op S.1 a b = some L' → zNx rul D cy ad A nL p l ev R s m args below meth c cells slots Q S.1.length e tgt lc st h (L', zfact op a b ++ S.2.1, S.2.2))
    (kf : ∀ L' : List zI, zref (znot op) S.1 a b = some L' → zNx rul D cy ad A nL p l ev R s m args below meth c cells slots Q S.1.length e (pc + 3) lc st h (L', zfact (znot op) a b ++ S.2.1, S.2.2)) : W p l ev R s m args below meth c H locs cells slots Q (F0 m pc ls (zst e ad (b :: a :: st))) := by
  rw [zst2 ha hb0]
  have qa := zin_ok hi.1.1 ha2
  have qb := zin_ok hi.1.1 hb2
  have wa := zin_wf ha2
  have wb := zin_wf hb2
  have hj := zI_tl (zI_tl hi)
  match op, hd, kt, kf with
  | 0, hd, kt, kf => exact lv_icmp_eq hx hb hd ht (fun hc => zk_br hj wa wb (show zrel 0 _ _ from (zc_eq qa qb).mp hc) kt) (fun hc => zk_br hj wa wb (znot_ok 0 (fun z => hc ((zc_eq qa qb).mpr z))) kf)
  | 1, hd, kt, kf => exact lv_icmp_ne hx hb hd ht (fun hc => zk_br hj wa wb (show zrel 1 _ _ from fun z => hc ((zc_eq qa qb).mpr z)) kt) (fun hc => zk_br hj wa wb (znot_ok 1 (fun z => z ((zc_eq qa qb).mp hc))) kf)
  | 2, hd, kt, kf => exact lv_icmp_lt hx hb hd ht (fun hc => zk_br hj wa wb (show zrel 2 _ _ from (zc_lt qa qb).mp hc) kt) (fun hc => zk_br hj wa wb (znot_ok 2 (fun z => hc ((zc_lt qa qb).mpr z))) kf)
  | 3, hd, kt, kf => exact lv_icmp_ge hx hb hd ht (fun hc => zk_br hj wa wb (show zrel 3 _ _ from (zc_le qb qa).mp hc) kt) (fun hc => zk_br hj wa wb (znot_ok 3 (fun z => hc ((zc_le qb qa).mpr z))) kf)
  | 4, hd, kt, kf => exact lv_icmp_gt hx hb hd ht (fun hc => zk_br hj wa wb (show zrel 4 _ _ from (zc_lt qb qa).mp hc) kt) (fun hc => zk_br hj wa wb (znot_ok 4 (fun z => hc ((zc_lt qb qa).mpr z))) kf)
  | n + 5, hd, kt, kf => exact lv_icmp_le hx hb hd ht (fun hc => zk_br hj wa wb (show zrel (n + 5) _ _ from (zc_le qa qb).mp hc) kt) (fun hc => zk_br hj wa wb (znot_ok (n + 5) (fun z => hc ((zc_le qa qb).mpr z))) kf)
theorem zk_if (op : Nat) (hx : p.tables.exec = Jvm.exec) (hb : c.code = cc) {off : Int} {tgt : Nat} (hi : zInv rul D cy ad A nL s.heap e lc (a :: st) h S ws H locs ls) (ha : a.1 = 0) (ha2 : z32 S.1 a = true) (hd : decode cc pc = .ok (.ifCond (zcnd op) off, 3)) (ht : (pc : Int) + off = (tgt : Int))
    (kt : ∀ L' : List zI, zref op S.1 a (0, 0, 0, 0) = some L' → zNx rul D cy ad A nL p l ev R s m args below meth c cells slots Q S.1.length e tgt lc st h (L', zfact op a (0, 0, 0, 0) ++ S.2.1, S.2.2))
    (kf : ∀ L' : List zI, zref (znot op) S.1 a (0, 0, 0, 0) = some L' → zNx rul D cy ad A nL p l ev R s m args below meth c cells slots Q S.1.length e (pc + 3) lc st h (L', zfact (znot op) a (0, 0, 0, 0) ++ S.2.1, S.2.2)) : W p l ev R s m args below meth c H locs cells slots Q (F0 m pc ls (zst e ad (a :: st))) := by
  show W p l ev R s m args below meth c H locs cells slots Q (F0 m pc ls (zval e ad a :: zst e ad st))
  rw [zval_0 ha]
  have qa := zin_ok hi.1.1 ha2
  have qb : -2147483648 ≤ (0 : Int) ∧ (0 : Int) ≤ 2147483647 := by decide
  have wa := zin_wf ha2
  have wb : zwf S.1.length (0, 0, 0, 0) := Or.inl rfl
  have hj := zI_tl hi
  have z0 : zv e (0, 0, 0, 0) = 0 := zv_c e 0
  have eq0 : Int32.ofInt (zv e a) = 0 ↔ zv e a = 0 := by rw [zi0]; exact zc_eq qa qb
  have lt0 : Int32.ofInt (zv e a) < 0 ↔ zv e a < 0 := by rw [zi0]; exact zc_lt qa qb
  have gt0 : 0 < Int32.ofInt (zv e a) ↔ 0 < zv e a := by rw [zi0]; exact zc_lt qb qa
  have le0 : Int32.ofInt (zv e a) ≤ 0 ↔ zv e a ≤ 0 := by rw [zi0]; exact zc_le qa qb
  have ge0 : 0 ≤ Int32.ofInt (zv e a) ↔ 0 ≤ zv e a := by rw [zi0]; exact zc_le qb qa
  rw [← z0] at eq0 lt0 gt0 le0 ge0
  match op, hd, kt, kf with
  | 0, hd, kt, kf => exact lv_if_eq hx hb hd ht (fun hc => zk_br hj wa wb (show zrel 0 _ _ from by rw [z0] at eq0 ⊢; exact eq0.mp hc) kt) (fun hc => zk_br hj wa wb (znot_ok 0 (fun z => hc (by rw [z0] at eq0; exact eq0.mpr (z.trans z0)))) kf)
  | 1, hd, kt, kf => exact lv_if_ne hx hb hd ht (fun hc => zk_br hj wa wb (show zrel 1 _ _ from fun z => hc (by rw [z0] at eq0; exact eq0.mpr (z.trans z0))) kt) (fun hc => zk_br hj wa wb (znot_ok 1 (fun z => z (by rw [z0] at eq0 ⊢; exact eq0.mp hc))) kf)
  | 2, hd, kt, kf => exact lv_if_lt hx hb hd ht (fun hc => zk_br hj wa wb (show zrel 2 _ _ from by rw [z0] at lt0; show zv e a < zv e (0, 0, 0, 0); rw [z0]; exact lt0.mp hc) kt) (fun hc => zk_br hj wa wb (znot_ok 2 (fun z => hc (by rw [z0] at lt0; exact lt0.mpr (by have z : zv e a < zv e (0, 0, 0, 0) := z; rw [z0] at z; exact z)))) kf)
  | 3, hd, kt, kf => exact lv_if_ge hx hb hd ht (fun hc => zk_br hj wa wb (show zrel 3 _ _ from by rw [z0] at ge0; show zv e (0, 0, 0, 0) ≤ zv e a; rw [z0]; exact ge0.mp hc) kt) (fun hc => zk_br hj wa wb (znot_ok 3 (fun z => hc (by rw [z0] at ge0; exact ge0.mpr (by have z : zv e (0, 0, 0, 0) ≤ zv e a := z; rw [z0] at z; exact z)))) kf)
  | 4, hd, kt, kf => exact lv_if_gt hx hb hd ht (fun hc => zk_br hj wa wb (show zrel 4 _ _ from by rw [z0] at gt0; show zv e (0, 0, 0, 0) < zv e a; rw [z0]; exact gt0.mp hc) kt) (fun hc => zk_br hj wa wb (znot_ok 4 (fun z => hc (by rw [z0] at gt0; exact gt0.mpr (by have z : zv e (0, 0, 0, 0) < zv e a := z; rw [z0] at z; exact z)))) kf)
  | n + 5, hd, kt, kf => exact lv_if_le hx hb hd ht (fun hc => zk_br hj wa wb (show zrel (n + 5) _ _ from by rw [z0] at le0; show zv e a ≤ zv e (0, 0, 0, 0); rw [z0]; exact le0.mp hc) kt) (fun hc => zk_br hj wa wb (znot_ok (n + 5) (fun z => hc (by rw [z0] at le0; exact le0.mpr (by have z : zv e a ≤ zv e (0, 0, 0, 0) := z; rw [z0] at z; exact z)))) kf)
/-- what the tables say of the classes -/
def zCl : Prop := ∀ (ci : Nat) (r : vw_C), vwCl[ci]? = some r → (∀ w ∈ u_ws r.1 r.2.1 r.2.2, w ∈ zTg) ∧ ∃ ty0 : Nat → FieldType, (∀ k, k < r.2.2 → parseFieldDescriptor (r.2.1 k).2.2.1 = some (ty0 k)) ∧ ∀ a, a < r.2.2 → ∀ b, b < r.2.2 → a ≠ b → (r.2.1 a).2.1 ≠ (r.2.1 b).2.1
theorem zk_get (hx : p.tables.exec = Jvm.exec) (hb : c.code = cc) {own : String} {ix ci k N len rr : Nat} {C : String} {T : u_T} {fs : List zA} (hts : ∀ w ∈ zTg, w.before args s = true) (hcl : zCl) (hown : s.vm.findClass own = some m.cls) (hK : va_K D vwCl (ztys cy) s)
    (hi : zInv rul D cy ad A nL s.heap e lc (a :: st) h S ws H locs ls) (ha : a.1 = 2) (hh : h[a.2.2.1]? = some (0, ci, len, rr, fs)) (hr : vwCl[ci]? = some (C, T, N)) (hk : k < N) (hf : fs[k]? = some b) (hlk : Cond.fieldLink own ix (T k).1 (T k).2.1 (T k).2.2.1 ∈ zTg) (hd : decode cc pc = .ok (.getfield ix, 3))
    (kk : zNx rul D cy ad A nL p l ev R s m args below meth c cells slots Q S.1.length e (pc + 3) lc (b :: st) h S) : W p l ev R s m args below meth c H locs cells slots Q (F0 m pc ls (zst e ad (a :: st))) := by
  show W p l ev R s m args below meth c H locs cells slots Q (F0 m pc ls (zval e ad a :: zst e ad st))
  rw [zval_2 ha]
  obtain ⟨E, q1, q2⟩ := hi.2.2.2.2.1.2 _ _ hh
  have q2 : E = .inr (ci, zst e ad fs) := q2
  subst q2
  have hv : (zst e ad fs)[k]? = some (zval e ad b) := by unfold zst; rw [List.getElem?_map, hf]; rfl
  exact va_get (D := D) hx hb hts (hcl ci _ hr).1 hown hK hi.2.2.2.2.2.1 _ q1 hr k hk (hts _ hlk) (fun _ q => q) hv hd (zk_on (zI_tl hi) (hi.2.2.2.1 _ (List.mem_of_getElem? hh) _ (List.mem_of_getElem? hf)) kk)
theorem zk_put (hx : p.tables.exec = Jvm.exec) (hb : c.code = cc) {own : String} {ix ci k N len rr : Nat} {C : String} {T : u_T} {fs : List zA} {ty : FieldType} (hts : ∀ w ∈ zTg, w.before args s = true) (hcl : zCl) (hown : s.vm.findClass own = some m.cls) (hK : va_K D vwCl (ztys cy) s)
    (hi : zInv rul D cy ad A nL s.heap e lc (b :: a :: st) h S ws H locs ls) (ha : a.1 = 2) (hb0 : b.1 = 0) (hh : h[a.2.2.1]? = some (0, ci, len, rr, fs)) (hr : vwCl[ci]? = some (C, T, N)) (hk : k < N) (hf : k < fs.length) (hlk : Cond.fieldLink own ix (T k).1 (T k).2.1 (T k).2.2.1 ∈ zTg) (hfin : (T k).2.2.2 = false)
    (hty : parseFieldDescriptor (T k).2.2.1 = some ty) (hty2 : ty = .int ∨ (ty = .boolean ∧ zin S.1 b 0 1 = true)) (hd : decode cc pc = .ok (.putfield ix, 3))
    (kk : zNx rul D cy ad A nL p l ev R s m args below meth c cells slots Q S.1.length e (pc + 3) lc st (h.set a.2.2.1 (0, ci, len, rr, fs.set k b)) S) : W p l ev R s m args below meth c H locs cells slots Q (F0 m pc ls (zst e ad (b :: a :: st))) := by
  show W p l ev R s m args below meth c H locs cells slots Q (F0 m pc ls (zval e ad b :: zval e ad a :: zst e ad st))
  rw [zval_2 ha]
  obtain ⟨E, q1, q2⟩ := hi.2.2.2.2.1.2 _ _ hh
  have q2 : E = .inr (ci, zst e ad fs) := q2
  subst q2
  obtain ⟨hin, ty0, t1, t2⟩ := hcl ci _ hr
  have hn : narrow ty (zval e ad b) = zval e ad b ∧ fits ty (zval e ad b) = true := by
    rw [zval_0 hb0]
    rcases hty2 with rfl | ⟨rfl, hz⟩
    · exact ⟨rfl, rfl⟩
    · obtain ⟨z1, z2⟩ := zin_ok hi.1.1 hz
      have hz3 : zv e b = 0 ∨ zv e b = 1 := by omega
      rcases hz3 with hz3 | hz3
      · rw [hz3]; exact ⟨by decide +kernel, by decide +kernel⟩
      · rw [hz3]; exact ⟨by decide +kernel, by decide +kernel⟩
  refine va_put (D := D) hx hb hts hin ty0 t1 t2 hown hK hi.2.2.2.2.2.1 hi.2.2.2.2.2.2.1 hi.2.2.2.2.2.2.2.1 _ q1 hr k hk (hts _ hlk) (fun _ q => q) hfin hty hn.1 hn.2 (by show k < (zst e ad fs).length; unfold zst; rw [List.length_map]; exact hf) hd fun H1 locs1 hP1 hD1 hS1 => ?_
  have hm := List.mem_of_getElem? hh
  have e1 : (zst e ad fs).set k (zval e ad b) = zst e ad (fs.set k b) := by unfold zst; rw [List.map_set]
  rw [e1] at hP1 hD1
  refine kk e _ H1 locs1 ls (zag_rf _ _) (Nat.le_refl _) (zI_hp (zI_tl (zI_tl hi)) (fun c9 hc9 x hx9 => ?_) (zHR_set hi.2.2.2.2.1 (show zCR rul cy e ad (0, ci, len, rr, fs.set k b) _ from rfl)) hP1 hD1 hS1)
  rcases List.mem_or_eq_of_mem_set hc9 with z | z
  · exact hi.2.2.2.1 c9 z x hx9
  · rw [z] at hx9
    rcases List.mem_or_eq_of_mem_set hx9 with y | y
    · exact hi.2.2.2.1 _ hm x y
    · rw [y]; exact zI_hd hi
/-- what is known of a cell changes, the cell doesn't -/
theorem zHR_know {i : Nat} {c' : zC} {E : va_E} (hr : zHR rul cy e ad h ws) (hw : ws[i]? = some (ad i, E)) (hc : zCR rul cy e ad c' E) : zHR rul cy e ad (h.set i c') ws := by
  have := zHR_set (i := i) hr hc
  rwa [zset_self hw] at this
theorem zwf_set {n i : Nat} {c' : zC} (hw : ∀ c ∈ h, ∀ a ∈ c.2.2.2.2, zwf n a) (hc : ∀ a ∈ c'.2.2.2.2, zwf n a) : ∀ c ∈ h.set i c', ∀ a ∈ c.2.2.2.2, zwf n a := by
  intro c9 hc9 x hx9
  rcases List.mem_or_eq_of_mem_set hc9 with z | z
  · exact hw c9 z x hx9
  · rw [z] at hx9
    exact hc x hx9
/-- a place of an array by a rule is read -/
theorem zk_ialdR (hx : p.tables.exec = Jvm.exec) (hb : c.code = cc) {len rr : Nat} {fs : List zA} (hK : va_K D vwCl (ztys cy) s) (hi : zInv rul D cy ad A nL s.heap e lc (b :: a :: st) h S ws H locs ls) (ha : a.1 = 2) (hb0 : b.1 = 0) (hh : h[a.2.2.1]? = some (2, 0, len, rr, fs)) (hlen : len < 2 ^ 31) (hz : zin S.1 b 0 ((len : Int) - 1) = true) (hd : decode cc pc = .ok (.iaload, 1))
    (kk : zNx rul D cy ad A nL p l ev R s m args below meth c cells slots Q S.1.length e (pc + 1) lc (zvar S :: st) (h.set a.2.2.1 (2, 0, len, rr, zrp rr b (zvar S) fs)) ((zpush S (zrb rr S fs b (zrd (rul rr) b))).1, (zpush S (zrb rr S fs b (zrd (rul rr) b))).2.1, (S.1.length, rr, b) :: (zpush S (zrb rr S fs b (zrd (rul rr) b))).2.2)) : W p l ev R s m args below meth c H locs cells slots Q (F0 m pc ls (zst e ad (b :: a :: st))) := by
  show W p l ev R s m args below meth c H locs cells slots Q (F0 m pc ls (zval e ad b :: zval e ad a :: zst e ad st))
  rw [zval_2 ha, zval_0 hb0]
  obtain ⟨E, q1, f, q2, q3, q4⟩ := hi.2.2.2.2.1.2 _ _ hh
  subst q2
  obtain ⟨z1, z2⟩ := zin_ok hi.1.1 hz
  obtain ⟨y1, y2⟩ := zc_in (n := len) z1 (by omega) hlen
  refine va_iald (D := D) hx hb hK hi.2.2.2.2.2.1 _ 0 q1 rfl y1 hd ?_
  rw [y2]
  have hj : ((zv e b).toNat : Int) = zv e b := Int.toNat_of_nonneg z1
  have hok := q3 (zv e b).toNat (by show (zv e b).toNat < len; omega)
  have hbd := zrb_ok hi.1.1 q4 hj (zrd_ok (e := e) (a := b) hj hok)
  have hbd : (zrb rr S fs b (zrd (rul rr) b)).1 ≤ (f (zv e b).toNat).toInt ∧ (f (zv e b).toNat).toInt ≤ (zrb rr S fs b (zrd (rul rr) b)).2 := hbd
  generalize zrb rr S fs b (zrd (rul rr) b) = i9 at hbd kk
  have hsat := zSat_push (i := i9) hi.1 hbd
  have ag := zag_ext e S.1.length (f (zv e b).toNat).toInt
  have wb := zI_hd hi
  have hsat2 := zSat_note (F := (S.1.length, rr, b)) hsat ⟨by rw [zpush_len]; omega, zwf_le wb (by rw [zpush_len]; omega), (zv e b).toNat, by show zv _ b = _; rw [zv_ag ag wb]; exact hj.symm, by show zok (rul rr) _ (zext e S.1.length _ S.1.length); rw [zext_at]; exact hok⟩
  have hln : S.1.length ≤ (zpush S i9).1.length := by rw [zpush_len]; omega
  have hj2 := zInv_ext (zI_tl (zI_tl hi)) ag hsat2 hln
  have hwfs : ∀ x ∈ fs, zwf S.1.length x := hi.2.2.2.1 _ (List.mem_of_getElem? hh)
  have hj3 := zI_hp hj2 (zwf_set (i := a.2.2.1) (c' := (2, 0, len, rr, zrp rr b (zvar S) fs)) hj2.2.2.2.1 (zrp_wf (fun x hx9 => zwf_le (hwfs x hx9) hln) (zwf_le wb hln) (zvar_wf S i9))) (zHR_know hj2.2.2.2.2.1 q1 (show zCR rul cy _ ad (2, 0, len, rr, zrp rr b (zvar S) fs) _ from ⟨f, rfl, q3, by
    show zX rr f ((zrp rr b (zvar S) fs).map (zv (zext e S.1.length (f (zv e b).toNat).toInt)))
    refine zrp_ok (j := (zv e b).toNat) ?_ (by rw [zv_ag ag wb]; exact hj) (zvar_v S e _)
    rw [zmv_ag ag hwfs]
    exact q4⟩)) hj2.2.2.2.2.2.1 hj2.2.2.2.2.2.2.1 hj2.2.2.2.2.2.2.2.1
  have hk := kk _ ws H locs ls ag hln (zI_cons hj3 (zvar_wf S i9))
  have e1 : zst (zext e S.1.length (f (zv e b).toNat).toInt) ad (zvar S :: st) = Value.int (f (zv e b).toNat) :: zst e ad st := by
    show zval _ ad (zvar S) :: zst _ ad st = _
    rw [zst_ag ag (zI_tl (zI_tl hi)).2.2.1, zval_0 rfl, zvar_v, Int32.ofInt_toInt]
  rw [e1] at hk
  exact hk
/-- .. and written -/
theorem zk_iastR (hx : p.tables.exec = Jvm.exec) (hb : c.code = cc) {d : zA} {len rr : Nat} {fs fs' : List zA} (hK : va_K D vwCl (ztys cy) s) (hi : zInv rul D cy ad A nL s.heap e lc (d :: b :: a :: st) h S ws H locs ls) (ha : a.1 = 2) (hb0 : b.1 = 0) (hd0 : d.1 = 0) (hh : h[a.2.2.1]? = some (2, 0, len, rr, fs)) (hlen : len < 2 ^ 31) (hz : zin S.1 b 0 ((len : Int) - 1) = true) (hw : zwr S rr (rul rr) b d = true) (hp : zwp rr S b d fs = some fs') (hd : decode cc pc = .ok (.iastore, 1))
    (kk : zNx rul D cy ad A nL p l ev R s m args below meth c cells slots Q S.1.length e (pc + 1) lc st (h.set a.2.2.1 (2, 0, len, rr, fs')) S) : W p l ev R s m args below meth c H locs cells slots Q (F0 m pc ls (zst e ad (d :: b :: a :: st))) := by
  show W p l ev R s m args below meth c H locs cells slots Q (F0 m pc ls (zval e ad d :: zval e ad b :: zval e ad a :: zst e ad st))
  rw [zval_2 ha, zval_0 hb0, zval_0 hd0]
  obtain ⟨E, q1, f, q2, q3, q4⟩ := hi.2.2.2.2.1.2 _ _ hh
  subst q2
  obtain ⟨z1, z2⟩ := zin_ok hi.1.1 hz
  obtain ⟨y1, y2⟩ := zc_in (n := len) z1 (by omega) hlen
  have hj : ((zv e b).toNat : Int) = zv e b := Int.toNat_of_nonneg z1
  have hnew := zwr_ok hi.1 hj hw
  refine va_iast (D := D) hx hb hK hi.2.2.2.2.2.1 hi.2.2.2.2.2.2.1 hi.2.2.2.2.2.2.2.1 _ 0 q1 rfl y1 hd fun H1 locs1 hP1 hD1 hS1 => ?_
  rw [y2] at hP1 hD1
  have hwfs : ∀ x ∈ fs, zwf S.1.length x := hi.2.2.2.1 _ (List.mem_of_getElem? hh)
  refine kk e _ H1 locs1 ls (zag_rf _ _) (Nat.le_refl _) (zI_hp (zI_tl (zI_tl (zI_tl hi))) (zwf_set hi.2.2.2.1 (zwp_wf hp hwfs (zI_hd (zI_tl hi)) (zI_hd hi))) ?_ hP1 hD1 hS1)
  refine zHR_set hi.2.2.2.2.1 (show zCR rul cy e ad (2, 0, len, rr, fs') _ from ⟨_, rfl, fun j hjl => ?_, zwp_ok hi.1.1 q4 hj hp (pk_us ..) (fun i hi9 => pk_un hi9)⟩)
  by_cases hjj : j = (zv e b).toNat
  · subst hjj
    rw [pk_us]
    exact hnew
  · rw [pk_un hjj]
    exact q3 j hjl
end ZW
end
section
/-! ===== arrays place by place, arrays of cells, longs, switches, copies ===== -/
theorem zxor_neg (x y : Int32) : (x ^^^ y).toInt < 0 ↔ ((x.toInt < 0) ≠ (y.toInt < 0)) := by
  have h : ∀ z : Int32, z.toBitVec.msb = decide (z.toInt < 0) := fun z => BitVec.msb_eq_toInt
  have hx := h x
  have hy := h y
  have hz := h (x ^^^ y)
  rw [Int32.toBitVec_xor, BitVec.msb_xor, hx, hy] at hz
  by_cases h1 : x.toInt < 0 <;> by_cases h2 : y.toInt < 0 <;> simp [h1, h2] at hz ⊢ <;> first | exact hz | (intro q; omega) | omega
section ZW
variable {rul : Nat → List zI} {D : va_G} {cy : Nat → ClassId} {ad : Nat → Nat} {A : Nat → Prop} {nL : Nat} {e : Nat → Int} {lc : zL} {st : List zA} {h : List zC} {S : zS} {ws : va_W} {H : Heap} {locs : List Loc} {ls : Array Slot}
variable {p : Program} {l : Launch} {ev : Env} {R : Room} {s : State} {m : MethodId} {args : Array Value} {below : List Frame} {meth : Method} {c : Code} {cells slots : Nat} {Q : State → Prop} {cc : ByteArray} {pc : Nat} {a b : zA}
/-- the number is j: on with that -/
theorem zI_is (hi : zInv rul D cy ad A nL s.heap e lc st h S ws H locs ls) {j : Int} (hj : zv e b = j) : ∃ L' : List zI, zref 0 S.1 b (0, 0, 0, j) = some L' ∧ L'.length = S.1.length ∧ zInv rul D cy ad A nL s.heap e lc st h (L', S.2.1, S.2.2) ws H locs ls := by
  obtain ⟨L', e1, h1, l1⟩ := zref_ok (a := b) (b := (0, 0, 0, j)) 0 hi.1.1 (show zrel 0 (zv e b) _ from by rw [zv_c]; exact hj)
  exact ⟨L', e1, l1, zI_S hi (zSat_ref hi.1 h1 l1) l1⟩
theorem zk_ialdE (hx : p.tables.exec = Jvm.exec) (hb : c.code = cc) {len rr : Nat} {fs : List zA} (hK : va_K D vwCl (ztys cy) s) (hi : zInv rul D cy ad A nL s.heap e lc (b :: a :: st) h S ws H locs ls) (ha : a.1 = 2) (hb0 : b.1 = 0) (hh : h[a.2.2.1]? = some (1, 0, len, rr, fs)) (hlen : len < 2 ^ 31) (hz : zin S.1 b 0 ((len : Int) - 1) = true) (htg : ∀ d ∈ fs, d.1 = 0) (hd : decode cc pc = .ok (.iaload, 1))
    (kk : ∀ (j : Nat) (L' : List zI) (d : zA), j < len → zref 0 S.1 b (0, 0, 0, (j : Int)) = some L' → fs[j]? = some d → zNx rul D cy ad A nL p l ev R s m args below meth c cells slots Q S.1.length e (pc + 1) lc (d :: st) h (L', S.2.1, S.2.2)) : W p l ev R s m args below meth c H locs cells slots Q (F0 m pc ls (zst e ad (b :: a :: st))) := by
  show W p l ev R s m args below meth c H locs cells slots Q (F0 m pc ls (zval e ad b :: zval e ad a :: zst e ad st))
  rw [zval_2 ha, zval_0 hb0]
  obtain ⟨E, q1, f, q2, q3, q4⟩ := hi.2.2.2.2.1.2 _ _ hh
  subst q2
  have q3 : fs.length = len := q3
  obtain ⟨z1, z2⟩ := zin_ok hi.1.1 hz
  obtain ⟨y1, y2⟩ := zc_in (n := len) z1 (by omega) hlen
  refine va_iald (D := D) hx hb hK hi.2.2.2.2.2.1 _ 0 q1 rfl y1 hd ?_
  rw [y2]
  have hj : zv e b = ((zv e b).toNat : Int) := (Int.toNat_of_nonneg z1).symm
  obtain ⟨L', e1, l1, hi2⟩ := zI_is (b := b) (zI_tl (zI_tl hi)) hj
  have hlt : (zv e b).toNat < len := by omega
  obtain ⟨d, hdd⟩ : ∃ d, fs[(zv e b).toNat]? = some d := ⟨_, List.getElem?_eq_getElem (by omega)⟩
  have hk := kk (zv e b).toNat L' d hlt e1 hdd e ws H locs ls (zag_rf _ _) (Nat.le_of_eq l1.symm) (zI_cons hi2 (by show zwf L'.length d; rw [l1]; exact hi.2.2.2.1 _ (List.mem_of_getElem? hh) _ (List.mem_of_getElem? hdd)))
  have e2 : zst e ad (d :: st) = Value.int (f (zv e b).toNat) :: zst e ad st := by
    show zval e ad d :: zst e ad st = _
    rw [zval_0 (htg d (List.mem_of_getElem? hdd)), q4 _ d hdd]
  rw [e2] at hk
  exact hk
theorem zk_iastE (hx : p.tables.exec = Jvm.exec) (hb : c.code = cc) {d : zA} {len rr : Nat} {fs : List zA} (hK : va_K D vwCl (ztys cy) s) (hi : zInv rul D cy ad A nL s.heap e lc (d :: b :: a :: st) h S ws H locs ls) (ha : a.1 = 2) (hb0 : b.1 = 0) (hd0 : d.1 = 0) (hh : h[a.2.2.1]? = some (1, 0, len, rr, fs)) (hlen : len < 2 ^ 31) (hz : zin S.1 b 0 ((len : Int) - 1) = true) (hd : decode cc pc = .ok (.iastore, 1))
    (kk : ∀ (j : Nat) (L' : List zI), j < len → zref 0 S.1 b (0, 0, 0, (j : Int)) = some L' → zNx rul D cy ad A nL p l ev R s m args below meth c cells slots Q S.1.length e (pc + 1) lc st (h.set a.2.2.1 (1, 0, len, rr, fs.set j d)) (L', S.2.1, S.2.2)) : W p l ev R s m args below meth c H locs cells slots Q (F0 m pc ls (zst e ad (d :: b :: a :: st))) := by
  show W p l ev R s m args below meth c H locs cells slots Q (F0 m pc ls (zval e ad d :: zval e ad b :: zval e ad a :: zst e ad st))
  rw [zval_2 ha, zval_0 hb0, zval_0 hd0]
  obtain ⟨E, q1, f, q2, q3, q4⟩ := hi.2.2.2.2.1.2 _ _ hh
  subst q2
  have q3 : fs.length = len := q3
  obtain ⟨z1, z2⟩ := zin_ok hi.1.1 hz
  obtain ⟨y1, y2⟩ := zc_in (n := len) z1 (by omega) hlen
  have hj : zv e b = ((zv e b).toNat : Int) := (Int.toNat_of_nonneg z1).symm
  refine va_iast (D := D) hx hb hK hi.2.2.2.2.2.1 hi.2.2.2.2.2.2.1 hi.2.2.2.2.2.2.2.1 _ 0 q1 rfl y1 hd fun H1 locs1 hP1 hD1 hS1 => ?_
  rw [y2] at hP1 hD1
  have hlt : (zv e b).toNat < len := by omega
  have hm := List.mem_of_getElem? hh
  have hi1 : zInv rul D cy ad A nL s.heap e lc st (h.set a.2.2.1 (1, 0, len, rr, fs.set (zv e b).toNat d)) S _ H1 locs1 ls := zI_hp (zI_tl (zI_tl (zI_tl hi))) (fun c9 hc9 x hx9 => by
    rcases List.mem_or_eq_of_mem_set hc9 with z | z
    · exact hi.2.2.2.1 c9 z x hx9
    · rw [z] at hx9
      rcases List.mem_or_eq_of_mem_set hx9 with y | y
      · exact hi.2.2.2.1 _ hm x y
      · rw [y]; exact zI_hd hi) (zHR_set hi.2.2.2.2.1 (show zCR rul cy e ad (1, 0, len, rr, fs.set (zv e b).toNat d) _ from ⟨_, rfl, by show (fs.set _ d).length = len; rw [List.length_set]; exact q3, fun j x hjx => by
      by_cases hjj : (zv e b).toNat = j
      · subst hjj
        rw [List.getElem?_set_self (by omega)] at hjx
        cases hjx
        rw [pk_us]
      · rw [List.getElem?_set_ne hjj] at hjx
        rw [pk_un (fun q => hjj q.symm)]
        exact q4 j x hjx⟩)) hP1 hD1 hS1
  obtain ⟨L', e1, l1, hi2⟩ := zI_is (b := b) hi1 hj
  exact kk (zv e b).toNat L' hlt e1 e _ H1 locs1 ls (zag_rf _ _) (Nat.le_of_eq l1.symm) hi2
theorem zk_aald (hx : p.tables.exec = Jvm.exec) (hb : c.code = cc) {len rr t : Nat} {fs : List zA} {ty : FieldType} (hK : va_K D vwCl (ztys cy) s) (hi : zInv rul D cy ad A nL s.heap e lc (b :: a :: st) h S ws H locs ls) (ha : a.1 = 2) (hb0 : b.1 = 0) (hh : h[a.2.2.1]? = some (3, t, len, rr, fs)) (hty : (ztys cy)[t]? = some (cy t, ty)) (hrf : ty.isReference = true) (hlen : len < 2 ^ 31) (hz : zin S.1 b 0 ((len : Int) - 1) = true) (htg : ∀ d ∈ fs, d.1 = 2) (hd : decode cc pc = .ok (.aaload, 1))
    (kk : ∀ (j : Nat) (L' : List zI) (d : zA), j < len → zref 0 S.1 b (0, 0, 0, (j : Int)) = some L' → fs[j]? = some d → zNx rul D cy ad A nL p l ev R s m args below meth c cells slots Q S.1.length e (pc + 1) lc (d :: st) h (L', S.2.1, S.2.2)) : W p l ev R s m args below meth c H locs cells slots Q (F0 m pc ls (zst e ad (b :: a :: st))) := by
  show W p l ev R s m args below meth c H locs cells slots Q (F0 m pc ls (zval e ad b :: zval e ad a :: zst e ad st))
  rw [zval_2 ha, zval_0 hb0]
  obtain ⟨E, q1, f, q2, q3, q4⟩ := hi.2.2.2.2.1.2 _ _ hh
  subst q2
  have q3 : fs.length = len := q3
  obtain ⟨z1, z2⟩ := zin_ok hi.1.1 hz
  obtain ⟨y1, y2⟩ := zc_in (n := len) z1 (by omega) hlen
  have hj : zv e b = ((zv e b).toNat : Int) := (Int.toNat_of_nonneg z1).symm
  obtain ⟨L', e1, l1, hi2⟩ := zI_is (b := b) (zI_tl (zI_tl hi)) hj
  have hlt : (zv e b).toNat < len := by omega
  obtain ⟨d, hdd⟩ : ∃ d, fs[(zv e b).toNat]? = some d := ⟨_, List.getElem?_eq_getElem (by omega)⟩
  have hk := kk (zv e b).toNat L' d hlt e1 hdd e ws H locs ls (zag_rf _ _) (Nat.le_of_eq l1.symm) (zI_cons hi2 (by show zwf L'.length d; rw [l1]; exact hi.2.2.2.1 _ (List.mem_of_getElem? hh) _ (List.mem_of_getElem? hdd)))
  have e2 : zst e ad (d :: st) = va_rf (f (zv e b).toNat) :: zst e ad st := by
    show zval e ad d :: zst e ad st = _
    rw [zval_2 (htg d (List.mem_of_getElem? hdd)), q4 _ d hdd, if_neg (by rw [htg d (List.mem_of_getElem? hdd)]; decide)]
    rfl
  rw [e2] at hk
  exact W.aald (v := va_rf (f (zv e b).toNat)) (ty := ty) hx hb (hi.2.2.2.2.2.1 _ _ q1) ((hK.2 t _ hty).1 len (fun j => va_rf (f j))) hrf (fun q => by cases q) (by show ¬ (_ < 0 ∨ (arrV _ _ _).slots.size ≤ _); rw [arrV_size]; exact y1) (by show (arrV _ _ _).slots[_]? = _; rw [y2, arrV_read _ _ hlt]) rfl rfl hd hk
theorem zk_i2l (hx : p.tables.exec = Jvm.exec) (hb : c.code = cc) (hi : zInv rul D cy ad A nL s.heap e lc (a :: st) h S ws H locs ls) (ha : a.1 = 0) (hz : z32 S.1 a = true) (hd : decode cc pc = .ok (.i2l, 1))
    (kk : zNx rul D cy ad A nL p l ev R s m args below meth c cells slots Q S.1.length e (pc + 1) lc ((1, a.2) :: st) h S) : W p l ev R s m args below meth c H locs cells slots Q (F0 m pc ls (zst e ad (a :: st))) := by
  show W p l ev R s m args below meth c H locs cells slots Q (F0 m pc ls (zval e ad a :: zst e ad st))
  rw [zval_0 ha]
  refine lv_i2l (v := Int64.ofInt (zv e a)) hx hb hd (by rw [← Int64.ofInt_int32ToInt, z32_i (zin_ok hi.1.1 hz)]) ?_
  have hw : zwf S.1.length a := zI_hd hi
  exact zk_on (a := (1, a.2)) (zI_tl hi) hw kk
theorem zk_lconst (hx : p.tables.exec = Jvm.exec) (hb : c.code = cc) {n : Fin 2} (hi : zInv rul D cy ad A nL s.heap e lc st h S ws H locs ls) (hd : decode cc pc = .ok (.lconst n, 1))
    (kk : zNx rul D cy ad A nL p l ev R s m args below meth c cells slots Q S.1.length e (pc + 1) lc ((1, 0, 0, ((n : Nat) : Int)) :: st) h S) : W p l ev R s m args below meth c H locs cells slots Q (F0 m pc ls (zst e ad st)) := by
  refine lv_lconst (v := Int64.ofInt ((n : Nat) : Int)) hx hb hd (by rw [Int64.ofInt_eq_ofNat]) ?_
  have hk := zk_on (a := (1, 0, 0, ((n : Nat) : Int))) hi (Or.inl rfl) kk
  rw [zval_1 rfl, show zv e (1, 0, 0, ((n : Nat) : Int)) = ((n : Nat) : Int) from by unfold zv; simp] at hk
  exact hk
theorem zk_last (hx : p.tables.exec = Jvm.exec) (hb : c.code = cc) {d : zA} {len rr j : Nat} {fs : List zA} (hK : va_K D vwCl (ztys cy) s) (hi : zInv rul D cy ad A nL s.heap e lc (d :: b :: a :: st) h S ws H locs ls) (ha : a.1 = 2) (hb0 : b.1 = 0) (hd0 : d.1 = 1) (hh : h[a.2.2.1]? = some (4, 1, len, rr, fs)) (hlen : len < 2 ^ 31) (hz : zin S.1 b (j : Int) (j : Int) = true) (hj : j < len) (hd : decode cc pc = .ok (.lastore, 1))
    (kk : zNx rul D cy ad A nL p l ev R s m args below meth c cells slots Q S.1.length e (pc + 1) lc st (h.set a.2.2.1 (4, 1, len, rr, fs.set j d)) S) : W p l ev R s m args below meth c H locs cells slots Q (F0 m pc ls (zst e ad (d :: b :: a :: st))) := by
  show W p l ev R s m args below meth c H locs cells slots Q (F0 m pc ls (zval e ad d :: zval e ad b :: zval e ad a :: zst e ad st))
  rw [zval_2 ha, zval_0 hb0, zval_1 hd0]
  obtain ⟨E, q1, f, q2, q3, q4⟩ := hi.2.2.2.2.1.2 _ _ hh
  subst q2
  have q3 : fs.length = len := q3
  obtain ⟨z1, z2⟩ := zin_ok hi.1.1 hz
  have hjz : zv e b = (j : Int) := by omega
  obtain ⟨y1, y2⟩ := zc_in (z := zv e b) (n := len) (by omega) (by omega) hlen
  have y2 : (Int32.ofInt (zv e b)).toNatClampNeg = j := by rw [y2, hjz]; rfl
  refine va_last (D := D) hx hb hK hi.2.2.2.2.2.1 hi.2.2.2.2.2.2.1 hi.2.2.2.2.2.2.2.1 _ 1 q1 rfl y1 hd fun H1 locs1 hP1 hD1 hS1 => ?_
  rw [y2] at hP1 hD1
  have hm := List.mem_of_getElem? hh
  refine kk e _ H1 locs1 ls (zag_rf _ _) (Nat.le_refl _) (zI_hp (zI_tl (zI_tl (zI_tl hi))) (fun c9 hc9 x hx9 => ?_) (zHR_set hi.2.2.2.2.1 (show zCR rul cy e ad (4, 1, len, rr, fs.set j d) _ from ⟨_, rfl, by show (fs.set j d).length = len; rw [List.length_set]; exact q3, fun i x hix => ?_⟩)) hP1 hD1 hS1)
  · rcases List.mem_or_eq_of_mem_set hc9 with z | z
    · exact hi.2.2.2.1 c9 z x hx9
    · rw [z] at hx9
      rcases List.mem_or_eq_of_mem_set hx9 with y | y
      · exact hi.2.2.2.1 _ hm x y
      · rw [y]; exact zI_hd hi
  · by_cases hij : j = i
    · subst hij
      have hix : (fs.set j d)[j]? = some x := hix
      rw [List.getElem?_set_self (by omega)] at hix
      cases hix
      rw [pk_uLs]
    · have hix : (fs.set j d)[i]? = some x := hix
      rw [List.getElem?_set_ne hij] at hix
      rw [pk_uLn (fun q => hij q.symm)]
      exact q4 i x hix
theorem zk_ixor (hx : p.tables.exec = Jvm.exec) (hb : c.code = cc) (hi : zInv rul D cy ad A nL s.heap e lc (b :: a :: st) h S ws H locs ls) (ha : a.1 = 0) (hb0 : b.1 = 0) (ha2 : z32 S.1 a = true) (hz : zin S.1 b 0 2147483647 = true) (hd : decode cc pc = .ok (.ixor, 1))
    (kn : ∀ L' : List zI, zref 2 S.1 a (0, 0, 0, 0) = some L' → zNx rul D cy ad A nL p l ev R s m args below meth c cells slots Q S.1.length e (pc + 1) lc (zvar (L', S.2.1, S.2.2) :: st) h (zpush (L', S.2.1, S.2.2) (-2147483648, -1)))
    (kp : ∀ L' : List zI, zref 3 S.1 a (0, 0, 0, 0) = some L' → zNx rul D cy ad A nL p l ev R s m args below meth c cells slots Q S.1.length e (pc + 1) lc (zvar (L', S.2.1, S.2.2) :: st) h (zpush (L', S.2.1, S.2.2) (0, 2147483647))) : W p l ev R s m args below meth c H locs cells slots Q (F0 m pc ls (zst e ad (b :: a :: st))) := by
  rw [zst2 ha hb0]
  refine lv_ixor hx hb hd ?_
  obtain ⟨y1, y2⟩ := zin_ok hi.1.1 hz
  have qa := zin_ok hi.1.1 ha2
  have ea : (Int32.ofInt (zv e a)).toInt = zv e a := z32_i qa
  have eb : (Int32.ofInt (zv e b)).toInt = zv e b := z32_i ⟨by omega, by omega⟩
  have hxr := zxor_neg (Int32.ofInt (zv e a)) (Int32.ofInt (zv e b))
  rw [ea, eb] at hxr
  have hr := zi_rng (Int32.ofInt (zv e a) ^^^ Int32.ofInt (zv e b))
  have hnb : ¬ zv e b < 0 := by omega
  have hj := zI_tl (zI_tl hi)
  by_cases hc : zv e a < 0
  · obtain ⟨L', e1, h1, l1⟩ := zref_ok (b := (0, 0, 0, 0)) 2 hi.1.1 (show zrel 2 (zv e a) _ from by show zv e a < _; rw [zv_c]; exact hc)
    have hs := zSat_ref hi.1 h1 l1
    have hneg : (Int32.ofInt (zv e a) ^^^ Int32.ofInt (zv e b)).toInt < 0 := hxr.mpr (by simp [hc, hnb])
    have hz2 := zI_S (S' := (L', S.2.1, S.2.2)) hj hs l1
    have hk : zNx rul D cy ad A nL p l ev R s m args below meth c cells slots Q (L', S.2.1, S.2.2).1.length e (pc + 1) lc ((znew (L', S.2.1, S.2.2) (-2147483648, -1)).2 :: st) h (znew (L', S.2.1, S.2.2) (-2147483648, -1)).1 := by
      show zNx rul D cy ad A nL p l ev R s m args below meth c cells slots Q L'.length e (pc + 1) lc _ h _
      rw [l1]
      exact kn L' e1
    exact zk_res hz2 (znew_ok hs ⟨hr.1, by show _ ≤ (-1 : Int); omega⟩) hk
  · obtain ⟨L', e1, h1, l1⟩ := zref_ok (b := (0, 0, 0, 0)) 3 hi.1.1 (show zrel 3 (zv e a) _ from by show _ ≤ zv e a; rw [zv_c]; omega)
    have hs := zSat_ref hi.1 h1 l1
    have hneg : ¬ (Int32.ofInt (zv e a) ^^^ Int32.ofInt (zv e b)).toInt < 0 := fun q => by have := hxr.mp q; simp [hc, hnb] at this
    have hz2 := zI_S (S' := (L', S.2.1, S.2.2)) hj hs l1
    have hk : zNx rul D cy ad A nL p l ev R s m args below meth c cells slots Q (L', S.2.1, S.2.2).1.length e (pc + 1) lc ((znew (L', S.2.1, S.2.2) (0, 2147483647)).2 :: st) h (znew (L', S.2.1, S.2.2) (0, 2147483647)).1 := by
      show zNx rul D cy ad A nL p l ev R s m args below meth c cells slots Q L'.length e (pc + 1) lc _ h _
      rw [l1]
      exact kp L' e1
    exact zk_res hz2 (znew_ok hs ⟨by show (0 : Int) ≤ _; omega, hr.2⟩) hk
/-- a remainder, by the sign of what is divided -/
theorem zk_irem2 (hx : p.tables.exec = Jvm.exec) (hb : c.code = cc) {n : Int} (hi : zInv rul D cy ad A nL s.heap e lc ((0, 0, 0, n) :: a :: st) h S ws H locs ls) (ha : a.1 = 0) (hn : 0 < n) (hn2 : n ≤ 2147483647) (ha2 : z32 S.1 a = true) (hd : decode cc pc = .ok (.irem, 1))
    (kn : ∀ L' : List zI, zref 2 S.1 a (0, 0, 0, 0) = some L' → zNx rul D cy ad A nL p l ev R s m args below meth c cells slots Q S.1.length e (pc + 1) lc (zvar (L', S.2.1, S.2.2) :: st) h (zpush (L', S.2.1, S.2.2) (1 - n, 0)))
    (kp : ∀ L' : List zI, zref 3 S.1 a (0, 0, 0, 0) = some L' → zNx rul D cy ad A nL p l ev R s m args below meth c cells slots Q S.1.length e (pc + 1) lc (zvar (L', S.2.1, S.2.2) :: st) h (zpush (L', S.2.1, S.2.2) (0, n - 1))) : W p l ev R s m args below meth c H locs cells slots Q (F0 m pc ls (zst e ad ((0, 0, 0, n) :: a :: st))) := by
  rw [zst2 (b := (0, 0, 0, n)) ha rfl, zv_c]
  have qa := zin_ok hi.1.1 ha2
  have ea : (Int32.ofInt (zv e a)).toInt = zv e a := z32_i qa
  have eb : (Int32.ofInt n).toInt = n := z32_i ⟨by omega, hn2⟩
  have h0 : ¬ Int32.ofInt n = 0 := fun z => by
    rw [z] at eb
    have : (0 : Int32).toInt = 0 := by decide
    omega
  refine lv_irem hx hb hd h0 ?_
  have hv := zrem_x (x := Int32.ofInt (zv e a)) (d := Int32.ofInt n) (by omega)
  rw [ea, eb] at hv
  have hb9 : ((zv e a).tmod n).natAbs < n.natAbs := by
    rw [Int.natAbs_tmod]
    exact Nat.mod_lt _ (by omega)
  have hj := zI_tl (zI_tl hi)
  by_cases hc : zv e a < 0
  · obtain ⟨L', e1, h1, l1⟩ := zref_ok (b := (0, 0, 0, 0)) 2 hi.1.1 (show zrel 2 (zv e a) _ from by show zv e a < _; rw [zv_c]; exact hc)
    have hs := zSat_ref hi.1 h1 l1
    have hneg : (zv e a).tmod n ≤ 0 := by
      have h2 := Int.tmod_nonneg n (a := -(zv e a)) (by omega)
      rw [Int.neg_tmod] at h2
      omega
    have hz2 := zI_S (S' := (L', S.2.1, S.2.2)) hj hs l1
    have hk : zNx rul D cy ad A nL p l ev R s m args below meth c cells slots Q (L', S.2.1, S.2.2).1.length e (pc + 1) lc ((znew (L', S.2.1, S.2.2) (1 - n, 0)).2 :: st) h (znew (L', S.2.1, S.2.2) (1 - n, 0)).1 := by
      show zNx rul D cy ad A nL p l ev R s m args below meth c cells slots Q L'.length e (pc + 1) lc _ h _
      rw [l1]
      exact kn L' e1
    exact zk_res hz2 (znew_ok hs ⟨by show 1 - n ≤ _; omega, by show _ ≤ (0 : Int); omega⟩) hk
  · obtain ⟨L', e1, h1, l1⟩ := zref_ok (b := (0, 0, 0, 0)) 3 hi.1.1 (show zrel 3 (zv e a) _ from by show _ ≤ zv e a; rw [zv_c]; omega)
    have hs := zSat_ref hi.1 h1 l1
    have hpos := Int.tmod_nonneg n (a := zv e a) (by omega)
    have hz2 := zI_S (S' := (L', S.2.1, S.2.2)) hj hs l1
    have hk : zNx rul D cy ad A nL p l ev R s m args below meth c cells slots Q (L', S.2.1, S.2.2).1.length e (pc + 1) lc ((znew (L', S.2.1, S.2.2) (0, n - 1)).2 :: st) h (znew (L', S.2.1, S.2.2) (0, n - 1)).1 := by
      show zNx rul D cy ad A nL p l ev R s m args below meth c cells slots Q L'.length e (pc + 1) lc _ h _
      rw [l1]
      exact kp L' e1
    exact zk_res hz2 (znew_ok hs ⟨by show (0 : Int) ≤ _; omega, by show _ ≤ n - 1; omega⟩) hk
theorem zk_tab (hx : p.tables.exec = Jvm.exec) (hb : c.code = cc) {lo hi' dfl : Int} {offs : Array Int} {len tgt n : Nat} (tgts : List Nat) (hi : zInv rul D cy ad A nL s.heap e lc (a :: st) h S ws H locs ls) (ha : a.1 = 0) (hz : z32 S.1 a = true) (hd : decode cc pc = .ok (.tableswitch dfl lo hi' offs, len)) (hn : hi' = lo + (n : Int) - 1) (hdf : (pc : Int) + dfl = (tgt : Int)) (ho : ∀ j : Nat, j < n → ∃ (o : Int) (t : Nat), offs[j]? = some o ∧ tgts[j]? = some t ∧ (pc : Int) + o = (t : Int))
    (kl : ∀ L' : List zI, zref 2 S.1 a (0, 0, 0, lo) = some L' → zNx rul D cy ad A nL p l ev R s m args below meth c cells slots Q S.1.length e tgt lc st h (L', S.2.1, S.2.2))
    (kh : ∀ L' : List zI, zref 4 S.1 a (0, 0, 0, hi') = some L' → zNx rul D cy ad A nL p l ev R s m args below meth c cells slots Q S.1.length e tgt lc st h (L', S.2.1, S.2.2))
    (kj : ∀ (j t : Nat) (L' : List zI), j < n → tgts[j]? = some t → zref 0 S.1 a (0, 0, 0, lo + (j : Int)) = some L' → zNx rul D cy ad A nL p l ev R s m args below meth c cells slots Q S.1.length e t lc st h (L', S.2.1, S.2.2)) : W p l ev R s m args below meth c H locs cells slots Q (F0 m pc ls (zst e ad (a :: st))) := by
  show W p l ev R s m args below meth c H locs cells slots Q (F0 m pc ls (zval e ad a :: zst e ad st))
  rw [zval_0 ha]
  have qa := zin_ok hi.1.1 hz
  have ea : (Int32.ofInt (zv e a)).toInt = zv e a := z32_i qa
  have hj := zI_tl hi
  by_cases c1 : zv e a < lo
  · obtain ⟨L', e1, h1, l1⟩ := zref_ok (b := (0, 0, 0, lo)) 2 hi.1.1 (show zrel 2 (zv e a) _ from by show zv e a < _; rw [zv_c]; exact c1)
    exact lv_tableOut hx hb hd (Or.inl (by rw [ea]; exact c1)) hdf (kl L' e1 e ws H locs ls (zag_rf _ _) (Nat.le_of_eq l1.symm) (zI_S hj (zSat_ref hi.1 h1 l1) l1))
  · by_cases c2 : hi' < zv e a
    · obtain ⟨L', e1, h1, l1⟩ := zref_ok (b := (0, 0, 0, hi')) 4 hi.1.1 (show zrel 4 (zv e a) _ from by show _ < zv e a; rw [zv_c]; exact c2)
      exact lv_tableOut hx hb hd (Or.inr (by rw [ea]; exact c2)) hdf (kh L' e1 e ws H locs ls (zag_rf _ _) (Nat.le_of_eq l1.symm) (zI_S hj (zSat_ref hi.1 h1 l1) l1))
    · have hq : zv e a = lo + (((zv e a - lo).toNat : Nat) : Int) := by omega
      have hlt : (zv e a - lo).toNat < n := by omega
      obtain ⟨o, t, o1, o2, o3⟩ := ho _ hlt
      obtain ⟨L', e1, l1, hi2⟩ := zI_is (b := a) hj hq
      exact lv_tableIn hx hb hd (by rw [ea]; exact c1) (by rw [ea]; exact c2) (by rw [ea]; exact o1) o3 (kj _ t L' hlt o2 e1 e ws H locs ls (zag_rf _ _) (Nat.le_of_eq l1.symm) hi2)
theorem zk_copy (hx : p.tables.exec = Jvm.exec) (hb : c.code = cc) (hml : c.maxLocals = nL) {own : String} {ix : Nat} {n dp sp qd qs : zA} {ld lr rr : Nat} {fd fr : List zA} (hts : ∀ w ∈ zTg, w.before args s = true) (hown : s.vm.findClass own = some m.cls) (hK : va_K D vwCl (ztys cy) s) (hlk : Cond.methodLink own ix arraycopyName ∈ zTg) (hnt : Cond.native arraycopyName ∈ zTg) (hst : Cond.static arraycopyName ∈ zTg) (hin : Cond.initialized "java/lang/System" ∈ zTg)
    (hi : zInv rul D cy ad A nL s.heap e lc (n :: dp :: qd :: sp :: qs :: st) h S ws H locs ls) (h0 : n.1 = 0) (h1 : dp.1 = 0) (h2 : qd.1 = 2) (h3 : sp.1 = 0) (h4 : qs.1 = 2) (hd1 : h[qd.2.2.1]? = some (2, 0, ld, rr, fd)) (hs1 : h[qs.2.2.1]? = some (2, 0, lr, rr, fr)) (hr1 : ¬ rr = 1) (hr2 : ¬ rr = 2) (z1 : zin S.1 dp 0 0 = true) (z2 : zin S.1 sp 0 0 = true) (z3 : zin S.1 n 0 (lr : Int) = true) (z4 : zin S.1 n 0 (ld : Int) = true) (hl1 : lr < 2 ^ 31) (hl2 : ld < 2 ^ 31)
    (hfr : 1 ≤ R.frames) (hlo : ((zst e ad st).map fun v => v.category).sum + (nativeFrameWords "java/lang/System" "arraycopy" 5 + 11) ≤ R.locals) (hd : decode cc pc = .ok (.invokestatic ix, 3))
    (kk : zNx rul D cy ad A nL p l ev R s m args below meth c cells slots Q S.1.length e (pc + 3) lc st h S) : W p l ev R s m args below meth c H locs cells slots Q (F0 m pc ls (zst e ad (n :: dp :: qd :: sp :: qs :: st))) := by
  show W p l ev R s m args below meth c H locs cells slots Q (F0 m pc ls (zval e ad n :: zval e ad dp :: zval e ad qd :: zval e ad sp :: zval e ad qs :: zst e ad st))
  rw [zval_0 h0, zval_0 h1, zval_2 h2, zval_0 h3, zval_2 h4]
  obtain ⟨E, q1, f, q2, q3, q4⟩ := hi.2.2.2.2.1.2 _ _ hd1
  subst q2
  obtain ⟨E2, r1, g, r2, r3, r4⟩ := hi.2.2.2.2.1.2 _ _ hs1
  subst r2
  have w1 := zin_ok hi.1.1 z1
  have w2 := zin_ok hi.1.1 z2
  have w3 := zin_ok hi.1.1 z3
  have w4 := zin_ok hi.1.1 z4
  have e1 : zv e dp = 0 := by omega
  have e2 : zv e sp = 0 := by omega
  rw [e1, e2]
  have cl : ∀ z : Int, 0 ≤ z → z ≤ 2147483647 → ¬ Int32.ofInt z < 0 ∧ (Int32.ofInt z).toNatClampNeg = z.toNat := fun z a1 a2 => by
    have a3 : (Int32.ofInt z).toInt = z := z32_i ⟨by omega, a2⟩
    refine ⟨fun q => ?_, by rw [← Int32.toNat_toInt, a3]⟩
    rw [Int32.lt_iff_toInt_lt, a3] at q
    have : (0 : Int32).toInt = 0 := by decide
    omega
  obtain ⟨c1, c2⟩ := cl 0 (by omega) (by omega)
  obtain ⟨c3, c4⟩ := cl (zv e n) w3.1 (by omega)
  have c2 : (Int32.ofInt 0).toNatClampNeg = 0 := c2
  refine va_copyi (D := D) hx hb (hml.trans hi.2.2.2.2.2.2.2.2.1.symm) hown (hts _ hlk) (hts _ hnt) (hts _ hst) (hts _ hin) hK hi.2.2.2.2.2.1 hi.2.2.2.2.2.2.1 hi.2.2.2.2.2.2.2.1 _ _ 0 0 (ty := .int) r1 q1 rfl rfl rfl c1 c1 c3 (by show _ ≤ lr; rw [c2, c4]; omega) (by show _ ≤ ld; rw [c2, c4]; omega) (fun _ _ => rfl) hfr hlo hd fun H1 locs1 hP1 hD1 hS1 => ?_
  rw [c2, c4] at hP1 hD1
  have hm : h.set qd.2.2.1 (2, 0, ld, rr, fd) = h := zset_self hd1
  refine kk e _ H1 locs1 ls (zag_rf _ _) (Nat.le_refl _) (zI_hp (zI_tl (zI_tl (zI_tl (zI_tl (zI_tl hi))))) hi.2.2.2.1 ?_ hP1 hD1 hS1)
  rw [← hm]
  refine zHR_set hi.2.2.2.2.1 (show zCR rul cy e ad (2, 0, ld, rr, fd) _ from ⟨_, rfl, fun j hjl => ?_, zX_o hr1 hr2⟩)
  have hjl : j < ld := hjl
  by_cases hj : j < (zv e n).toNat
  · rw [pk_cpy_in (Nat.zero_le j) (by omega)]
    rw [show 0 + (j - 0) = j by omega]
    exact r3 j (by show j < lr; omega)
  · rw [pk_cpy_out (Or.inr (by omega))]
    exact q3 j hjl
theorem zand31 (x : Int32) : 0 ≤ (x &&& 31).toInt ∧ (x &&& 31).toInt ≤ 31 := by
  have h1 : (x &&& 31).toBitVec.toNat ≤ 31 := by
    rw [Int32.toBitVec_and, BitVec.toNat_and]
    exact Nat.and_le_right
  have h2 : (x &&& 31).toInt = ((x &&& 31).toBitVec.toNat : Int) := by
    show (x &&& 31).toBitVec.toInt = _
    exact BitVec.toInt_eq_toNat_of_lt (by omega)
  omega
theorem zk_iand (hx : p.tables.exec = Jvm.exec) (hb : c.code = cc) (hi : zInv rul D cy ad A nL s.heap e lc ((0, 0, 0, 31) :: a :: st) h S ws H locs ls) (ha : a.1 = 0) (hd : decode cc pc = .ok (.iand, 1))
    (kk : zNx rul D cy ad A nL p l ev R s m args below meth c cells slots Q S.1.length e (pc + 1) lc (zvar S :: st) h (zpush S (0, 31))) : W p l ev R s m args below meth c H locs cells slots Q (F0 m pc ls (zst e ad ((0, 0, 0, 31) :: a :: st))) := by
  rw [zst2 (b := (0, 0, 0, 31)) ha rfl, zv_c, show Int32.ofInt 31 = 31 from by decide]
  exact lv_iand hx hb hd (zk_res (zI_tl (zI_tl hi)) (znew_ok hi.1 (zand31 _)) kk)
/-- the script: where it lies, its length and its numbers (rules 101 and 100 say them); none writes there -/
def zSc (rul : Nat → List zI) (ad : Nat → Nat) (A : Nat → Prop) (U : State) : Prop := ∃ (L : Nat) (xs : Nat → Int32), L ≤ 3072 ∧ rul 101 = [((L : Int), (L : Int))] ∧ rul 100 = (List.range L).map (fun j => ((xs j).toInt, (xs j).toInt)) ∧ va_X (ad 43) L xs U U.heap ∧ ad 43 < U.heap.size ∧ ¬ A (ad 43)
theorem zk_alen (hx : p.tables.exec = Jvm.exec) (hb : c.code = cc) (hsc : zSc rul ad A s) (hi : zInv rul D cy ad A nL s.heap e lc ((2, 0, 43, 0) :: st) h S ws H locs ls) (hd : decode cc pc = .ok (.arraylength, 1))
    (kk : zNx rul D cy ad A nL p l ev R s m args below meth c cells slots Q S.1.length e (pc + 1) lc (zvar S :: st) h ((zpush S (0, 3072)).1, (zpush S (0, 3072)).2.1, (S.1.length, 101, (0, 0, 0, 0)) :: (zpush S (0, 3072)).2.2)) : W p l ev R s m args below meth c H locs cells slots Q (F0 m pc ls (zst e ad ((2, 0, 43, 0) :: st))) := by
  show W p l ev R s m args below meth c H locs cells slots Q (F0 m pc ls (.ref (ad 43) :: zst e ad st))
  obtain ⟨L, xs, hL, r1, r2, hX, hbl, hbA⟩ := hsc
  have ag := zag_ext e S.1.length (L : Int)
  have hln : S.1.length ≤ (zpush S (0, 3072)).1.length := by rw [zpush_len]; omega
  have hsat := zSat_push (i := (0, 3072)) (x := (L : Int)) hi.1 ⟨by show (0 : Int) ≤ _; omega, by show (L : Int) ≤ 3072; omega⟩
  have hsat2 := zSat_note (F := (S.1.length, 101, (0, 0, 0, 0))) hsat ⟨by rw [zpush_len]; omega, Or.inl rfl, 0, by show zv _ (0, 0, 0, 0) = _; rw [zv_c]; rfl, by
    show zok (rul 101) 0 (zext e S.1.length _ S.1.length)
    rw [zext_at, r1]
    exact ⟨((L : Int), (L : Int)), rfl, Int.le_refl _, Int.le_refl _⟩⟩
  have hj2 := zInv_ext (zI_tl hi) ag hsat2 hln
  have hk := kk _ ws H locs ls ag hln (zI_cons hj2 (zvar_wf S _))
  have e1 : zst (zext e S.1.length (L : Int)) ad (zvar S :: st) = Value.int (Int32.ofInt (L : Int)) :: zst e ad st := by
    show zval _ ad (zvar S) :: zst _ ad st = _
    rw [zst_ag ag (zI_tl hi).2.2.1, zval_0 rfl, zvar_v]
  rw [e1] at hk
  refine va_slen hx hb hX hbl hbA hi.2.2.2.2.2.2.2.1 hd ?_
  rw [← Int32.ofInt_eq_ofNat]
  exact hk
/-- a place of the script is one of its places -/
def zsix (S : zS) (b : zA) : Bool := decide (b.1 = 0 ∧ b.2.1 = 1 ∧ 0 ≤ b.2.2.2 ∧ b.2.2.2 ≤ 5) && zin S.1 (0, 1, b.2.2.1, 0) 0 2147483647 && S.2.2.any (fun q => decide (q.2.1 = 101 ∧ ((0, 1, q.1, -6), (0, 1, b.2.2.1, 0)) ∈ S.2.1))
def zsfd (b : zA) : List (Nat × Nat × zA) → Option Nat
  | [] => none
  | q :: r => if q.2.1 = 100 ∧ q.2.2 = b then some q.1 else zsfd b r
theorem zsfd_mem {b : zA} {v : Nat} : ∀ {l : List (Nat × Nat × zA)}, zsfd b l = some v → (v, 100, b) ∈ l
  | [], h => by cases h
  | q :: r, h => by
    unfold zsfd at h
    by_cases c : q.2.1 = 100 ∧ q.2.2 = b
    · rw [if_pos c] at h
      cases h
      obtain ⟨q0, q1, q2⟩ := q
      obtain ⟨c1, c2⟩ := c
      have c1 : q1 = 100 := c1
      have c2 : q2 = b := c2
      subst c1; subst c2
      exact List.mem_cons_self
    · rw [if_neg c] at h
      exact List.mem_cons_of_mem _ (zsfd_mem h)
theorem zsix_ok {L : Nat} (r1 : rul 101 = [((L : Int), (L : Int))]) (hs : zSat rul e S) (h : zsix S b = true) : b.1 = 0 ∧ ∃ j : Nat, zv e b = (j : Int) ∧ j < L := by
  unfold zsix at h
  simp only [Bool.and_eq_true, decide_eq_true_eq] at h
  obtain ⟨⟨⟨h0, h1, h2, h3⟩, h4⟩, h5⟩ := h
  obtain ⟨q, hq, hf⟩ := List.any_eq_true.mp h5
  obtain ⟨f1, f2⟩ := of_decide_eq_true hf
  obtain ⟨a1, a2, j, a3, a4⟩ := hs.2.2 q hq
  rw [f1, r1] at a4
  obtain ⟨i, i1, i2, i3⟩ := a4
  have hi1 : (((L : Int), (L : Int)) : zI) = i := by
    have : j % [((L : Int), (L : Int))].length = 0 := Nat.mod_one j
    rw [this] at i1
    simpa using i1
  subst hi1
  have i2 : (L : Int) ≤ e q.1 := i2
  have i3 : e q.1 ≤ (L : Int) := i3
  have hn := (hs.2.1 _ f2).2.2
  have hn : (1 : Int) * e b.2.2.1 + 0 ≤ 1 * e q.1 + -6 := hn
  have hz := (zin_ok hs.1 h4).1
  have hz : 0 ≤ (1 : Int) * e b.2.2.1 + 0 := hz
  have hv : zv e b = e b.2.2.1 + b.2.2.2 := by unfold zv; rw [h1]; omega
  exact ⟨h0, (zv e b).toNat, by omega, by omega⟩
theorem zk_scr (hx : p.tables.exec = Jvm.exec) (hb : c.code = cc) (hsc : zSc rul ad A s) (hi : zInv rul D cy ad A nL s.heap e lc (b :: (2, 0, 43, 0) :: st) h S ws H locs ls) (hz : zsix S b = true) (hd : decode cc pc = .ok (.iaload, 1))
    (k1 : ∀ v : Nat, zsfd b S.2.2 = some v → zNx rul D cy ad A nL p l ev R s m args below meth c cells slots Q S.1.length e (pc + 1) lc ((0, 1, v, 0) :: st) h S)
    (k2 : zsfd b S.2.2 = none → zNx rul D cy ad A nL p l ev R s m args below meth c cells slots Q S.1.length e (pc + 1) lc (zvar S :: st) h ((zpush S zfull).1, (zpush S zfull).2.1, (S.1.length, 100, b) :: (zpush S zfull).2.2)) : W p l ev R s m args below meth c H locs cells slots Q (F0 m pc ls (zst e ad (b :: (2, 0, 43, 0) :: st))) := by
  show W p l ev R s m args below meth c H locs cells slots Q (F0 m pc ls (zval e ad b :: .ref (ad 43) :: zst e ad st))
  obtain ⟨L, xs, hL, r1, r2, hX, hbl, hbA⟩ := hsc
  obtain ⟨hb0, j, hj, hjl⟩ := zsix_ok r1 hi.1 hz
  rw [zval_0 hb0]
  obtain ⟨y1, y2⟩ := zc_in (z := zv e b) (n := L) (by omega) (by omega) (by omega)
  refine va_sld hx hb hX hbl hbA hi.2.2.2.2.2.2.2.1 y1 hd ?_
  rw [y2, hj, show ((j : Int)).toNat = j from rfl]
  have hlen : (rul 100).length = L := by rw [r2, List.length_map, List.length_range]
  have hat : (rul 100)[j % (rul 100).length]? = some ((xs j).toInt, (xs j).toInt) := by
    rw [hlen, Nat.mod_eq_of_lt hjl, r2, List.getElem?_map, List.getElem?_range hjl]
    rfl
  cases hf : zsfd b S.2.2 with
  | some v =>
    obtain ⟨a1, a2, j', a3, a4⟩ := hi.1.2.2 _ (zsfd_mem hf)
    have a3 : zv e b = (j' : Int) := a3
    have hjj : j' = j := by omega
    subst hjj
    obtain ⟨i, i1, i2, i3⟩ := a4
    have i1 : (rul 100)[j' % (rul 100).length]? = some i := i1
    rw [hat] at i1
    cases i1
    have i2 : (xs j').toInt ≤ e v := i2
    have i3 : e v ≤ (xs j').toInt := i3
    have hk := zk_on (a := (0, 1, v, 0)) (zI_tl (zI_tl hi)) (Or.inr a1) (k1 v hf)
    rw [zval_0 rfl, show zv e (0, 1, v, 0) = (xs j').toInt from by show (1 : Int) * e v + 0 = _; omega, Int32.ofInt_toInt] at hk
    exact hk
  | none =>
    have hsat := zSat_push (i := zfull) (x := (xs j).toInt) hi.1 (zi_rng _)
    have ag := zag_ext e S.1.length (xs j).toInt
    have wb := zI_hd hi
    have hln : S.1.length ≤ (zpush S zfull).1.length := by rw [zpush_len]; omega
    have hsat2 := zSat_note (F := (S.1.length, 100, b)) hsat ⟨by rw [zpush_len]; omega, zwf_le wb hln, j, by show zv _ b = _; rw [zv_ag ag wb]; exact hj, by
      show zok (rul 100) j (zext e S.1.length _ S.1.length)
      rw [zext_at]
      exact ⟨_, hat, Int.le_refl _, Int.le_refl _⟩⟩
    have hj2 := zInv_ext (zI_tl (zI_tl hi)) ag hsat2 hln
    have hk := k2 hf _ ws H locs ls ag hln (zI_cons hj2 (zvar_wf S _))
    have e1 : zst (zext e S.1.length (xs j).toInt) ad (zvar S :: st) = Value.int (xs j) :: zst e ad st := by
      show zval _ ad (zvar S) :: zst _ ad st = _
      rw [zst_ag ag (zI_tl (zI_tl hi)).2.2.1, zval_0 rfl, zvar_v, Int32.ofInt_toInt]
    rw [e1] at hk
    exact hk
theorem zk_lald (hx : p.tables.exec = Jvm.exec) (hb : c.code = cc) {len rr j : Nat} {fs : List zA} {d : zA} (hK : va_K D vwCl (ztys cy) s) (hi : zInv rul D cy ad A nL s.heap e lc (b :: a :: st) h S ws H locs ls) (ha : a.1 = 2) (hb0 : b.1 = 0) (hh : h[a.2.2.1]? = some (4, 1, len, rr, fs)) (hlen : len < 2 ^ 31) (hz : zin S.1 b (j : Int) (j : Int) = true) (hj : j < len) (hdd : fs[j]? = some d) (hd1 : d.1 = 1) (hd : decode cc pc = .ok (.laload, 1))
    (kk : zNx rul D cy ad A nL p l ev R s m args below meth c cells slots Q S.1.length e (pc + 1) lc (d :: st) h S) : W p l ev R s m args below meth c H locs cells slots Q (F0 m pc ls (zst e ad (b :: a :: st))) := by
  show W p l ev R s m args below meth c H locs cells slots Q (F0 m pc ls (zval e ad b :: zval e ad a :: zst e ad st))
  rw [zval_2 ha, zval_0 hb0]
  obtain ⟨E, q1, f, q2, q3, q4⟩ := hi.2.2.2.2.1.2 _ _ hh
  subst q2
  obtain ⟨z1, z2⟩ := zin_ok hi.1.1 hz
  have hjz : zv e b = (j : Int) := by omega
  obtain ⟨y1, y2⟩ := zc_in (z := zv e b) (n := len) (by omega) (by omega) hlen
  have y2 : (Int32.ofInt (zv e b)).toNatClampNeg = j := by rw [y2, hjz]; rfl
  refine va_lald (D := D) hx hb hK hi.2.2.2.2.2.1 _ 1 q1 rfl y1 hd ?_
  rw [y2]
  have hk := zk_on (a := d) (zI_tl (zI_tl hi)) (hi.2.2.2.1 _ (List.mem_of_getElem? hh) _ (List.mem_of_getElem? hdd)) kk
  rw [zval_1 hd1, ← q4 j d hdd] at hk
  exact hk
theorem zlv_lcmp (hexec : p.tables.exec = Jvm.exec) (hb : c.code = cc) {x : Int64} {rest : List Value} (hdg : decode cc pc = .ok (.lcmp, 1))
    (k : W p l ev R s m args below meth c H locs cells slots Q (F0 m (pc + 1) ls (.int 0 :: rest))) : W p l ev R s m args below meth c H locs cells slots Q (F0 m pc ls (.long x :: .long x :: rest)) := by
  intro T hT X
  obtain ⟨t, a, b⟩ := k T hT X
  refine ⟨t, ?_, b⟩
  jvm_step X.here [X.here.top, hexec, hb, hdg]
  first | exact a | (simp; exact a) | (have hlt : ¬ x < x := Int64.lt_irrefl x; simp [hlt]; exact a)
theorem zk_lcmp (hx : p.tables.exec = Jvm.exec) (hb : c.code = cc) (hi : zInv rul D cy ad A nL s.heap e lc (b :: a :: st) h S ws H locs ls) (ha : a.1 = 1) (hb1 : b.1 = 1) (hab : a.2 = b.2) (hd : decode cc pc = .ok (.lcmp, 1))
    (kk : zNx rul D cy ad A nL p l ev R s m args below meth c cells slots Q S.1.length e (pc + 1) lc ((0, 0, 0, 0) :: st) h S) : W p l ev R s m args below meth c H locs cells slots Q (F0 m pc ls (zst e ad (b :: a :: st))) := by
  show W p l ev R s m args below meth c H locs cells slots Q (F0 m pc ls (zval e ad b :: zval e ad a :: zst e ad st))
  have hv : zv e a = zv e b := by unfold zv; rw [hab]
  rw [zval_1 ha, zval_1 hb1, hv]
  refine zlv_lcmp hx hb hd ?_
  have hk := zk_on (a := (0, 0, 0, 0)) (zI_tl (zI_tl hi)) (Or.inl rfl) kk
  rw [zval_0 rfl, zv_c] at hk
  exact hk
theorem zk_ialdA (hx : p.tables.exec = Jvm.exec) (hb : c.code = cc) {len rr : Nat} {fs : List zA} (hK : va_K D vwCl (ztys cy) s) (hi : zInv rul D cy ad A nL s.heap e lc (b :: a :: st) h S ws H locs ls) (ha : a.1 = 2) (hb0 : b.1 = 0) (hh : h[a.2.2.1]? = some (1, 0, len, rr, fs)) (hlen : len < 2 ^ 31) (hz : zin S.1 b 0 ((len : Int) - 1) = true) (hd : decode cc pc = .ok (.iaload, 1))
    (kk : zNx rul D cy ad A nL p l ev R s m args below meth c cells slots Q S.1.length e (pc + 1) lc (zvar S :: st) h (zpush S zfull)) : W p l ev R s m args below meth c H locs cells slots Q (F0 m pc ls (zst e ad (b :: a :: st))) := by
  show W p l ev R s m args below meth c H locs cells slots Q (F0 m pc ls (zval e ad b :: zval e ad a :: zst e ad st))
  rw [zval_2 ha, zval_0 hb0]
  obtain ⟨E, q1, f, q2, q3, q4⟩ := hi.2.2.2.2.1.2 _ _ hh
  subst q2
  obtain ⟨z1, z2⟩ := zin_ok hi.1.1 hz
  obtain ⟨y1, y2⟩ := zc_in (n := len) z1 (by omega) hlen
  refine va_iald (D := D) hx hb hK hi.2.2.2.2.2.1 _ 0 q1 rfl y1 hd ?_
  exact zk_res (zI_tl (zI_tl hi)) (znew_ok hi.1 (zi_rng _)) kk
theorem zk_if3 (hx : p.tables.exec = Jvm.exec) (hb : c.code = cc) {off : Int} {tgt : Nat} (hi : zInv rul D cy ad A nL s.heap e lc (a :: st) h S ws H locs ls) (ha : a.1 = 0) (ha2 : z32 S.1 a = true) (hd : decode cc pc = .ok (.ifCond .eq off, 3)) (ht : (pc : Int) + off = (tgt : Int))
    (kt : ∀ L' : List zI, zref 0 S.1 a (0, 0, 0, 0) = some L' → zNx rul D cy ad A nL p l ev R s m args below meth c cells slots Q S.1.length e tgt lc st h (L', zfact 0 a (0, 0, 0, 0) ++ S.2.1, S.2.2))
    (k2 : ∀ L' : List zI, zref 2 S.1 a (0, 0, 0, 0) = some L' → zNx rul D cy ad A nL p l ev R s m args below meth c cells slots Q S.1.length e (pc + 3) lc st h (L', zfact 2 a (0, 0, 0, 0) ++ S.2.1, S.2.2))
    (k4 : ∀ L' : List zI, zref 4 S.1 a (0, 0, 0, 0) = some L' → zNx rul D cy ad A nL p l ev R s m args below meth c cells slots Q S.1.length e (pc + 3) lc st h (L', zfact 4 a (0, 0, 0, 0) ++ S.2.1, S.2.2)) : W p l ev R s m args below meth c H locs cells slots Q (F0 m pc ls (zst e ad (a :: st))) := by
  show W p l ev R s m args below meth c H locs cells slots Q (F0 m pc ls (zval e ad a :: zst e ad st))
  rw [zval_0 ha]
  have qa := zin_ok hi.1.1 ha2
  have qb : -2147483648 ≤ (0 : Int) ∧ (0 : Int) ≤ 2147483647 := by decide
  have wa := zin_wf ha2
  have wb : zwf S.1.length (0, 0, 0, 0) := Or.inl rfl
  have hj := zI_tl hi
  have z0 : zv e (0, 0, 0, 0) = 0 := zv_c e 0
  have eq0 : Int32.ofInt (zv e a) = 0 ↔ zv e a = 0 := by rw [zi0]; exact zc_eq qa qb
  refine lv_if_eq hx hb hd ht (fun hc => zk_br hj wa wb (show zrel 0 _ _ from by show zv e a = zv e (0, 0, 0, 0); rw [z0]; exact eq0.mp hc) kt) (fun hc => ?_)
  have hne : ¬ zv e a = 0 := fun q => hc (eq0.mpr q)
  by_cases hlt : zv e a < 0
  · exact zk_br hj wa wb (show zrel 2 _ _ from by show zv e a < zv e (0, 0, 0, 0); rw [z0]; exact hlt) k2
  · exact zk_br hj wa wb (show zrel 4 _ _ from by show zv e (0, 0, 0, 0) < zv e a; rw [z0]; omega) k4
end ZW
end
section
/-! ===== the reference's copying loop: a step of the walk ===== -/
def zmix (f g : Nat → Int32) (b : Nat) : Nat → Int32 := fun j => if j < b then g j else f j
theorem zput_put (lc : zL) (j : Nat) (a b : zA) : zput (zput lc j a) j b = zput lc j b := by
  unfold zput
  congr 1
  rw [List.filter_cons]
  simp only [beq_self_eq_true, Bool.not_true, Bool.false_and, Bool.false_eq_true, if_false]
  rw [List.filter_filter]
  simp
section ZW
variable {rul : Nat → List zI} {D : va_G} {cy : Nat → ClassId} {ad : Nat → Nat} {A : Nat → Prop} {nL : Nat} {e : Nat → Int} {lc : zL} {st : List zA} {h : List zC} {S : zS} {ws : va_W} {H : Heap} {locs : List Loc} {ls : Array Slot}
variable {p : Program} {l : Launch} {ev : Env} {R : Room} {s : State} {m : MethodId} {args : Array Value} {below : List Frame} {meth : Method} {c : Code} {cells slots : Nat} {Q : State → Prop} {cc : ByteArray} {pc : Nat} {a b : zA}
theorem zk_loop (hx : p.tables.exec = Jvm.exec) (hb : c.code = cc) {own : String} {ixz ixd ixr kz kd ks kl N len0 rr0 : Nat} {kF : Fin 4} {C : String} {T : u_T} {fs fd fr : List zA} {me sz ds sr : zA} (hts : ∀ w ∈ zTg, w.before args s = true) (hcl : zCl) (hown : s.vm.findClass own = some m.cls) (hK : va_K D vwCl (ztys cy) s)
    (hr : vwCl[4]? = some (C, T, N)) (hkz : kz < N) (hkd : kd < N) (hks : ks < N) (hlz : Cond.fieldLink own ixz (T kz).1 (T kz).2.1 (T kz).2.2.1 ∈ zTg) (hld : Cond.fieldLink own ixd (T kd).1 (T kd).2.1 (T kd).2.2.1 ∈ zTg) (hlr : Cond.fieldLink own ixr (T ks).1 (T ks).2.1 (T ks).2.2.1 ∈ zTg)
    (hkF : (kF : Nat) = kl) (hk0 : ¬ kl = 0) (hkn : kl < nL)
    (hi : zInv rul D cy ad A nL s.heap e lc [] h S ws H locs ls) (hg : zget lc kl = some (0, 0, 0, 0)) (hgm : zget lc 0 = some me) (hme : me.1 = 2) (hhm : h[me.2.2.1]? = some (0, 4, len0, rr0, fs)) (hfz : fs[kz]? = some sz) (hz0 : sz.1 = 0) (hz : zin S.1 sz 0 400 = true) (hfd : fs[kd]? = some ds) (hd2 : ds.1 = 2) (hfr : fs[ks]? = some sr) (hr2 : sr.1 = 2) (hne : ¬ ds.2.2.1 = sr.2.2.1) (hhd : h[ds.2.2.1]? = some (2, 0, 5200, 1, fd)) (hhr : h[sr.2.2.1]? = some (2, 0, 5200, 1, fr)) (hfd3 : fd.length < 3) (hfr3 : fr.length < 3)
    (d0 : decode cc pc = .ok (.iload_n kF, 1)) (d1 : decode cc (pc + 1) = .ok (.bipush 13, 2)) (d2 : decode cc (pc + 3) = .ok (.aload_n 0, 1)) (d3 : decode cc (pc + 4) = .ok (.getfield ixz, 3)) (d4 : decode cc (pc + 7) = .ok (.imul, 1)) (d5 : decode cc (pc + 8) = .ok (.if_icmp .ge 21, 3)) (d6 : decode cc (pc + 11) = .ok (.aload_n 0, 1)) (d7 : decode cc (pc + 12) = .ok (.getfield ixd, 3)) (d8 : decode cc (pc + 15) = .ok (.iload_n kF, 1)) (d9 : decode cc (pc + 16) = .ok (.aload_n 0, 1)) (d10 : decode cc (pc + 17) = .ok (.getfield ixr, 3)) (d11 : decode cc (pc + 20) = .ok (.iload_n kF, 1)) (d12 : decode cc (pc + 21) = .ok (.iaload, 1)) (d13 : decode cc (pc + 22) = .ok (.iastore, 1)) (d14 : decode cc (pc + 23) = .ok (.iinc kl 1, 3)) (d15 : decode cc (pc + 26) = .ok (.goto (-26), 3))
    (kk : zNx rul D cy ad A nL p l ev R s m args below meth c cells slots Q S.1.length e (pc + 29) (zput lc kl (zvar S)) [] (h.set ds.2.2.1 (2, 0, 5200, 1, [])) (zpush S (0, 5200))) : W p l ev R s m args below meth c H locs cells slots Q (F0 m pc ls (zst e ad [])) := by
  obtain ⟨Em, m1, m2⟩ := hi.2.2.2.2.1.2 _ _ hhm
  have m2 : Em = .inr (4, zst e ad fs) := m2
  subst m2
  obtain ⟨Ed, q1, f, q2, q3, q4⟩ := hi.2.2.2.2.1.2 _ _ hhd
  subst q2
  obtain ⟨Er, r1, g, r2, r3, r4⟩ := hi.2.2.2.2.1.2 _ _ hhr
  subst r2
  have q3 : ∀ j : Nat, j < 5200 → zok (rul 1) j (f j).toInt := q3
  have r3 : ∀ j : Nat, j < 5200 → zok (rul 1) j (g j).toInt := r3
  have q5 : zPw f (-1) := zX1_pw (zX_1 q4) (by show (fd.map (zv e)).length < 3; rw [List.length_map]; exact hfd3)
  have r5 : zPw g (-1) := zX1_pw (zX_1 r4) (by show (fr.map (zv e)).length < 3; rw [List.length_map]; exact hfr3)
  have hnm : ¬ ds.2.2.1 = me.2.2.1 := fun q => by rw [q, hhm] at hhd; cases hhd
  obtain ⟨z1, z2⟩ := zin_ok hi.1.1 hz
  obtain ⟨n, hn⟩ : ∃ n : Nat, (n : Int) = zv e sz := ⟨(zv e sz).toNat, Int.toNat_of_nonneg z1⟩
  have hvz : (zst e ad fs)[kz]? = some (.int (Int32.ofInt (n : Int))) := by unfold zst; rw [List.getElem?_map, hfz]; show some (zval e ad sz) = _; rw [zval_0 hz0, hn]
  have hvd : (zst e ad fs)[kd]? = some (.ref (ad ds.2.2.1)) := by unfold zst; rw [List.getElem?_map, hfd]; show some (zval e ad ds) = _; rw [zval_2 hd2]
  have hvr : (zst e ad fs)[ks]? = some (.ref (ad sr.2.2.1)) := by unfold zst; rw [List.getElem?_map, hfr]; show some (zval e ad sr) = _; rw [zval_2 hr2]
  have hin4 := (hcl 4 _ hr).1
  have hlt9 : ∀ z : Int, 0 ≤ z → z ≤ 5200 → -2147483648 ≤ z ∧ z ≤ 2147483647 := fun z _ _ => ⟨by omega, by omega⟩
  have key : ∀ (t b : Nat) (ws' : va_W) (H' : Heap) (locs' : List Loc) (ls' : Array Slot), b + t = 13 * n → ws' = ws.set ds.2.2.1 (ad ds.2.2.1, .inl (cy 0, 5200, .inl (zmix f g b))) → va_P D vwCl ws' H' → va_D A ws' → va_S A s.heap H' locs' → lv_has ls' nL (zlv e ad (zput lc kl (0, 0, 0, (b : Int)))) → W p l ev R s m args below meth c H' locs' cells slots Q (F0 m pc ls' []) := by
    intro t
    induction t with
    | zero =>
      intro b ws' H' locs' ls' hbt hws hP hD hS hl
      have hv : ls'[kl]? = some (.val (.int (Int32.ofInt (b : Int)))) := by
        have := hl.2.2 (kl, zval e ad (0, 0, 0, (b : Int))) List.mem_cons_self
        rw [zval_0 rfl, zv_c] at this
        exact this
      have hmm : (0, me) ∈ zput lc kl (0, 0, 0, (b : Int)) := List.mem_cons_of_mem _ (List.mem_filter.mpr ⟨zget_mem hgm, by simp [hme]; exact fun q => hk0 q.symm⟩)
      have hv0 : ls'[0]? = some (.val (.ref (ad me.2.2.1))) := by
        have := hl.2.2 (0, zval e ad me) (List.mem_map.mpr ⟨_, hmm, rfl⟩)
        rw [zval_2 hme] at this
        exact this
      have w1 : ws'[me.2.2.1]? = some (ad me.2.2.1, .inr (4, zst e ad fs)) := by rw [hws, List.getElem?_set_ne hnm]; exact m1
      refine lv_iload_n hx hb d0 hkF hv ?_
      refine lv_bipush (v := Int32.ofInt 13) hx hb d1 (by decide) ?_
      refine lv_aload_n hx hb d2 rfl hv0 ?_
      refine va_get (D := D) hx hb hts hin4 hown hK hP _ w1 hr kz hkz (hts _ hlz) (fun _ q => q) hvz d3 ?_
      refine lv_imul hx hb d4 ?_
      rw [← Int32.ofInt_mul]
      refine lv_icmp_ge (tgt := pc + 29) hx hb d5 (by omega) (fun _ => ?_) (fun hc => absurd ((zc_le (hlt9 _ (by omega) (by omega)) (hlt9 _ (by omega) (by omega))).mpr (by omega)) hc)
      have ag := zag_ext e S.1.length (b : Int)
      have hln : S.1.length ≤ (zpush S (0, 5200)).1.length := by rw [zpush_len]; omega
      have hj2 := zInv_ext hi ag (zSat_push (i := (0, 5200)) (x := (b : Int)) hi.1 ⟨by show (0 : Int) ≤ _; omega, by show (b : Int) ≤ 5200; omega⟩) hln
      have hl2 : zlv (zext e S.1.length (b : Int)) ad (zput lc kl (zvar S)) = zlv e ad (zput lc kl (0, 0, 0, (b : Int))) := by
        rw [← zlv_put, ← zlv_put, zlv_ag ag hi.2.1, zval_0 (a := zvar S) rfl, zvar_v, zval_0 (a := (0, 0, 0, (b : Int))) rfl, zv_c]
      have hHR : zHR rul cy (zext e S.1.length (b : Int)) ad (h.set ds.2.2.1 (2, 0, 5200, 1, [])) ws' := by
        rw [hws]
        refine zHR_set hj2.2.2.2.2.1 (show zCR rul cy _ ad (2, 0, 5200, 1, []) _ from ⟨zmix f g b, rfl, fun j hj => ?_, zX_1i (show zPw (zmix f g b) (-1) from fun r k hk hr9 => ?_)⟩)
        · show zok (rul 1) j (zmix f g b j).toInt
          unfold zmix
          by_cases hjb : j < b
          · rw [if_pos hjb]; exact r3 j hj
          · rw [if_neg hjb]; exact q3 j hj
        · unfold zmix
          by_cases hrn : r < n
          · rw [if_pos (by omega), if_pos (by omega)]
            exact r5 r k hk hr9
          · rw [if_neg (by omega), if_neg (by omega)]
            exact q5 r k hk hr9
      exact kk _ ws' H' locs' ls' ag hln ⟨hj2.1, zput_wf hj2.2.1 (zvar_wf S _), fun x hx9 => (nomatch hx9), zwf_set hj2.2.2.2.1 (fun x hx9 => (nomatch hx9)), hHR, hP, hD, hS, by rw [hl2]; exact hl⟩
    | succ t ih =>
      intro b ws' H' locs' ls' hbt hws hP hD hS hl
      have hv : ls'[kl]? = some (.val (.int (Int32.ofInt (b : Int)))) := by
        have := hl.2.2 (kl, zval e ad (0, 0, 0, (b : Int))) List.mem_cons_self
        rw [zval_0 rfl, zv_c] at this
        exact this
      have hmm : (0, me) ∈ zput lc kl (0, 0, 0, (b : Int)) := List.mem_cons_of_mem _ (List.mem_filter.mpr ⟨zget_mem hgm, by simp [hme]; exact fun q => hk0 q.symm⟩)
      have hv0 : ls'[0]? = some (.val (.ref (ad me.2.2.1))) := by
        have := hl.2.2 (0, zval e ad me) (List.mem_map.mpr ⟨_, hmm, rfl⟩)
        rw [zval_2 hme] at this
        exact this
      have w1 : ws'[me.2.2.1]? = some (ad me.2.2.1, .inr (4, zst e ad fs)) := by rw [hws, List.getElem?_set_ne hnm]; exact m1
      have w2 : ws'[sr.2.2.1]? = some (ad sr.2.2.1, .inl (cy 0, 5200, .inl g)) := by rw [hws, List.getElem?_set_ne hne]; exact r1
      have w3 : ws'[ds.2.2.1]? = some (ad ds.2.2.1, .inl (cy 0, 5200, .inl (zmix f g b))) := by rw [hws, List.getElem?_set_self (List.getElem?_eq_some_iff.mp q1).1]
      refine lv_iload_n hx hb d0 hkF hv ?_
      refine lv_bipush (v := Int32.ofInt 13) hx hb d1 (by decide) ?_
      refine lv_aload_n hx hb d2 rfl hv0 ?_
      refine va_get (D := D) hx hb hts hin4 hown hK hP _ w1 hr kz hkz (hts _ hlz) (fun _ q => q) hvz d3 ?_
      refine lv_imul hx hb d4 ?_
      rw [← Int32.ofInt_mul]
      refine lv_icmp_ge (tgt := pc + 29) hx hb d5 (by omega) (fun hc => ?_) (fun _ => ?_)
      · have := (zc_le (hlt9 _ (by omega) (by omega)) (hlt9 _ (by omega) (by omega))).mp hc
        omega
      · refine lv_aload_n hx hb d6 rfl hv0 ?_
        refine va_get (D := D) hx hb hts hin4 hown hK hP _ w1 hr kd hkd (hts _ hld) (fun _ q => q) hvd d7 ?_
        refine lv_iload_n hx hb d8 hkF hv ?_
        refine lv_aload_n hx hb d9 rfl hv0 ?_
        refine va_get (D := D) hx hb hts hin4 hown hK hP _ w1 hr ks hks (hts _ hlr) (fun _ q => q) hvr d10 ?_
        refine lv_iload_n hx hb d11 hkF hv ?_
        obtain ⟨y1, y2⟩ := zc_in (z := (b : Int)) (n := 5200) (by omega) (by omega) (by omega)
        have y2 : (Int32.ofInt (b : Int)).toNatClampNeg = b := y2
        refine va_iald (D := D) hx hb hK hP _ 0 w2 rfl y1 d12 ?_
        rw [y2]
        refine va_iast (D := D) hx hb hK hP hD hS _ 0 w3 rfl y1 d13 fun H1 locs1 hP1 hD1 hS1 => ?_
        rw [y2] at hP1 hD1
        have hup : upd (zmix f g b) b (g b) = zmix f g (b + 1) := by
          funext j
          by_cases hj : j = b
          · subst hj
            rw [pk_us]
            unfold zmix
            rw [if_pos (by omega)]
          · rw [pk_un hj]
            unfold zmix
            by_cases hjb : j < b
            · rw [if_pos hjb, if_pos (by omega)]
            · rw [if_neg hjb, if_neg (by omega)]
        rw [hup, hws, List.set_set] at hP1 hD1
        have hb1 : Int32.ofInt (b : Int) + Int32.ofInt 1 = Int32.ofInt ((b + 1 : Nat) : Int) := by rw [← Int32.ofInt_add]; rfl
        refine lv_iinc (k := 0) (x := Int32.ofInt (b : Int)) (lv' := zlv e ad (zput lc kl (0, 0, 0, ((b + 1 : Nat) : Int)))) hx hb d14 hl (by show some (kl, zval e ad (0, 0, 0, (b : Int))) = _; rw [zval_0 rfl, zv_c]) hb1 hkn ?_ fun ls2 hl2 => ?_
        · have := zlv_put e ad (zput lc kl (0, 0, 0, (b : Int))) kl (0, 0, 0, ((b + 1 : Nat) : Int))
          rw [zput_put, zval_0 rfl, zv_c] at this
          exact this
        · refine lv_goto (tgt := pc) hx hb d15 (by omega) ?_
          exact ih (b + 1) _ H1 locs1 ls2 (by omega) rfl hP1 hD1 hS1 hl2
  have h00 : zmix f g 0 = f := by
    funext j
    unfold zmix
    rw [if_neg (by omega)]
  refine key (13 * n) 0 ws H locs ls (by omega) (by rw [h00]; exact (zset_self q1).symm) hi.2.2.2.2.2.1 hi.2.2.2.2.2.2.1 hi.2.2.2.2.2.2.2.1 ⟨hi.2.2.2.2.2.2.2.2.1, hi.2.2.2.2.2.2.2.2.2.1, fun w hw => ?_⟩
  refine hi.2.2.2.2.2.2.2.2.2.2 w ?_
  obtain ⟨w2, hw2, rfl⟩ := List.mem_map.mp hw
  refine List.mem_map.mpr ⟨w2, ?_, rfl⟩
  rcases List.mem_cons.mp hw2 with h9 | h9
  · rw [h9]; exact zget_mem hg
  · exact (List.mem_filter.mp h9).1
end ZW
end
section
/-! ===== one instruction of the listing: where the picture goes ===== -/
abbrev zT : Type := Nat × zL × List zA × List zC × zS
def zwd (q : Nat) (w : Cond) : Bool := decide (lw_tbl[q]? = some w) && goodWord w
theorem zwd_in {q : Nat} {w : Cond} (h : zwd q w = true) : w ∈ zTg := by
  unfold zwd at h
  simp only [Bool.and_eq_true, decide_eq_true_eq] at h
  exact List.mem_filter.mpr ⟨List.mem_of_getElem? h.1, h.2⟩
/-- the listing is right here: the instruction is the code's own, its words are the tables' -/
def zgd (i pc : Nat) (o : zO) : Bool := match o.1 with
  | 1 => if hh : o.2.2.1 < 4 then decide (decode (zcode i) pc = .ok (.iload_n ⟨o.2.2.1, hh⟩, 1)) else false
  | 2 => decide (decode (zcode i) pc = .ok (.iload o.2.2.1, 2))
  | 3 => if hh : o.2.2.1 < 4 then decide (decode (zcode i) pc = .ok (.aload_n ⟨o.2.2.1, hh⟩, 1)) else false
  | 4 => decide (decode (zcode i) pc = .ok (.aload o.2.2.1, 2))
  | 5 => if hh : o.2.2.1 < 4 then decide (decode (zcode i) pc = .ok (.istore_n ⟨o.2.2.1, hh⟩, 1)) && decide (o.2.2.1 < zmaxL i) else false
  | 6 => decide (decode (zcode i) pc = .ok (.istore o.2.2.1, 2)) && decide (o.2.2.1 < zmaxL i)
  | 7 => if hh : o.2.2.1 < 4 then decide (decode (zcode i) pc = .ok (.astore_n ⟨o.2.2.1, hh⟩, 1)) && decide (o.2.2.1 < zmaxL i) else false
  | 8 => decide (decode (zcode i) pc = .ok (.astore o.2.2.1, 2)) && decide (o.2.2.1 < zmaxL i)
  | 9 => decide (decode (zcode i) pc = .ok (.iconst o.2.1, 1))
  | 10 => decide (decode (zcode i) pc = .ok (.bipush o.2.1, 2)) && decide ((Int8.ofInt o.2.1).toInt32 = Int32.ofInt o.2.1)
  | 11 => decide (decode (zcode i) pc = .ok (.sipush o.2.1, 3)) && decide ((Int16.ofInt o.2.1).toInt32 = Int32.ofInt o.2.1)
  | 12 => decide (decode (zcode i) pc = .ok (.iadd, 1))
  | 13 => decide (decode (zcode i) pc = .ok (.isub, 1))
  | 14 => decide (decode (zcode i) pc = .ok (.imul, 1))
  | 15 => decide (decode (zcode i) pc = .ok (.irem, 1))
  | 17 => decide (decode (zcode i) pc = .ok (.iinc o.2.2.1 o.2.1, 3)) && decide (o.2.2.1 < zmaxL i)
  | 18 => decide (decode (zcode i) pc = .ok (.goto o.2.1, 3)) && decide ((pc : Int) + o.2.1 = (o.2.2.1 : Int))
  | 19 => decide (decode (zcode i) pc = .ok (.ifCond (zcnd o.2.2.2.1) o.2.1, 3)) && decide ((pc : Int) + o.2.1 = (o.2.2.1 : Int))
  | 20 => decide (decode (zcode i) pc = .ok (.if_icmp (zcnd o.2.2.2.1) o.2.1, 3)) && decide ((pc : Int) + o.2.1 = (o.2.2.1 : Int))
  | 21 => match vwCl[o.2.2.1]? with
    | some r => decide (decode (zcode i) pc = .ok (.getfield o.2.1.toNat, 3)) && decide (o.2.2.2.1 < r.2.2) && zwd o.2.2.2.2.1 (.fieldLink (zy i).cls o.2.1.toNat (r.2.1 o.2.2.2.1).1 (r.2.1 o.2.2.2.1).2.1 (r.2.1 o.2.2.2.1).2.2.1)
    | none => false
  | 22 => match vwCl[o.2.2.1]? with
    | some r => decide (decode (zcode i) pc = .ok (.putfield o.2.1.toNat, 3)) && decide (o.2.2.2.1 < r.2.2) && zwd o.2.2.2.2.1 (.fieldLink (zy i).cls o.2.1.toNat (r.2.1 o.2.2.2.1).1 (r.2.1 o.2.2.2.1).2.1 (r.2.1 o.2.2.2.1).2.2.1) && decide ((r.2.1 o.2.2.2.1).2.2.2 = false) && (decide (parseFieldDescriptor (r.2.1 o.2.2.2.1).2.2.1 = some .int) || decide (parseFieldDescriptor (r.2.1 o.2.2.2.1).2.2.1 = some .boolean))
    | none => false
  | 23 => decide (decode (zcode i) pc = .ok (.iaload, 1))
  | 24 => decide (decode (zcode i) pc = .ok (.iastore, 1))
  | 25 => decide (decode (zcode i) pc = .ok (.aaload, 1))
  | 26 => decide (decode (zcode i) pc = .ok (.lastore, 1))
  | 27 => decide (decode (zcode i) pc = .ok (.i2l, 1))
  | 28 => if hh : o.2.1.toNat < 2 then decide (decode (zcode i) pc = .ok (.lconst ⟨o.2.1.toNat, hh⟩, 1)) else false
  | 29 => decide (decode (zcode i) pc = .ok (.dup, 1))
  | 30 => decide (decode (zcode i) pc = .ok (.dup2, 1))
  | 31 => decide (decode (zcode i) pc = .ok (.pop, 1))
  | 32 => decide (decode (zcode i) pc = .ok (.ireturn, 1))
  | 33 => decide (decode (zcode i) pc = .ok (.return_, 1))
  | 37 => decide (decode (zcode i) pc = .ok (.tableswitch ((o.2.2.1 : Int) - (pc : Int)) o.2.1 (o.2.1 + (o.2.2.2.1 : Int) - 1) ((o.2.2.2.2.2.map (fun t : Nat => (t : Int) - (pc : Int))).toArray), o.2.2.2.2.1)) && decide (o.2.2.2.2.2.length = o.2.2.2.1)
  | 38 => decide (decode (zcode i) pc = .ok (.invokestatic o.2.1.toNat, 3)) && zwd (o.2.2.2.2.2.getD 0 0) (.methodLink (zy i).cls o.2.1.toNat arraycopyName) && zwd (o.2.2.2.2.2.getD 1 0) (.native arraycopyName) && zwd (o.2.2.2.2.2.getD 2 0) (.static arraycopyName) && zwd (o.2.2.2.2.2.getD 3 0) (.initialized "java/lang/System")
  | 40 => decide (decode (zcode i) pc = .ok (.laload, 1))
  | 41 => decide (decode (zcode i) pc = .ok (.lcmp, 1))
  | 62 => decide (decode (zcode i) pc = .ok (.iaload, 1))
  | 61 => decide (decode (zcode i) pc = .ok (.ifCond .eq o.2.1, 3)) && decide ((pc : Int) + o.2.1 = (o.2.2.1 : Int))
  | 42 => decide (decode (zcode i) pc = .ok (.ixor, 1))
  | 43 => decide (decode (zcode i) pc = .ok (.arraylength, 1))
  | 44 => decide (decode (zcode i) pc = .ok (.iand, 1))
  | 60 => match vwCl[4]? with
    | some r => (if hh : o.2.2.1 < 4 then decide (decode (zcode i) pc = .ok (.iload_n ⟨o.2.2.1, hh⟩, 1)) && decide (decode (zcode i) (pc + 15) = .ok (.iload_n ⟨o.2.2.1, hh⟩, 1)) && decide (decode (zcode i) (pc + 20) = .ok (.iload_n ⟨o.2.2.1, hh⟩, 1)) else false) &&
        (decide (decode (zcode i) (pc + 1) = .ok (.bipush 13, 2)) && decide (decode (zcode i) (pc + 3) = .ok (.aload_n 0, 1)) && decide (decode (zcode i) (pc + 4) = .ok (.getfield o.2.1.toNat, 3)) && decide (decode (zcode i) (pc + 7) = .ok (.imul, 1)) && decide (decode (zcode i) (pc + 8) = .ok (.if_icmp .ge 21, 3)) && decide (decode (zcode i) (pc + 11) = .ok (.aload_n 0, 1)) && decide (decode (zcode i) (pc + 12) = .ok (.getfield (o.2.2.2.2.2.getD 1 0), 3)) &&
        decide (decode (zcode i) (pc + 16) = .ok (.aload_n 0, 1)) && decide (decode (zcode i) (pc + 17) = .ok (.getfield (o.2.2.2.2.2.getD 2 0), 3)) && decide (decode (zcode i) (pc + 21) = .ok (.iaload, 1)) && decide (decode (zcode i) (pc + 22) = .ok (.iastore, 1)) && decide (decode (zcode i) (pc + 23) = .ok (.iinc o.2.2.1 1, 3)) && decide (decode (zcode i) (pc + 26) = .ok (.goto (-26), 3))) &&
        (decide (o.2.2.2.2.2.getD 0 0 < r.2.2) && decide (o.2.2.2.1 < r.2.2) && decide (o.2.2.2.2.1 < r.2.2) && zwd (o.2.2.2.2.2.getD 3 0) (.fieldLink (zy i).cls o.2.1.toNat (r.2.1 (o.2.2.2.2.2.getD 0 0)).1 (r.2.1 (o.2.2.2.2.2.getD 0 0)).2.1 (r.2.1 (o.2.2.2.2.2.getD 0 0)).2.2.1) && zwd (o.2.2.2.2.2.getD 4 0) (.fieldLink (zy i).cls (o.2.2.2.2.2.getD 1 0) (r.2.1 o.2.2.2.1).1 (r.2.1 o.2.2.2.1).2.1 (r.2.1 o.2.2.2.1).2.2.1) && zwd (o.2.2.2.2.2.getD 5 0) (.fieldLink (zy i).cls (o.2.2.2.2.2.getD 2 0) (r.2.1 o.2.2.2.2.1).1 (r.2.1 o.2.2.2.2.1).2.1 (r.2.1 o.2.2.2.2.1).2.2.1) && decide (¬ o.2.2.1 = 0) && decide (o.2.2.1 < zmaxL i))
    | none => false
  | _ => true
/-- the numbers that a place may be, each with what it says -/
def zeach (S : zS) (b : zA) (len : Nat) (g : Nat → List zI → List zT) : List zT := (List.range len).flatMap fun (j : Nat) => match zref 0 S.1 b (0, 0, 0, (j : Int)) with
  | none => []
  | some L' => g j L'
def zbr (op : Nat) (S : zS) (a b : zA) (t : Nat) (lc : zL) (st : List zA) (h : List zC) : List zT := match zref op S.1 a b with
  | none => []
  | some L' => [(t, lc, st, h, (L', zfact op a b ++ S.2.1, S.2.2))]
def zsw (op : Nat) (S : zS) (a b : zA) (t : Nat) (lc : zL) (st : List zA) (h : List zC) : List zT := match zref op S.1 a b with
  | none => []
  | some L' => [(t, lc, st, h, (L', S.2.1, S.2.2))]
def zs_ld (t len j pc : Nat) (lc : zL) (st : List zA) (h : List zC) (S : zS) : Option (List zT) := match zget lc j with
  | some a => if a.1 = t then some [(pc + len, lc, a :: st, h, S)] else none
  | none => none
def zs_sto (t len j pc : Nat) (lc : zL) (st : List zA) (h : List zC) (S : zS) : Option (List zT) := match st with
  | a :: r => if a.1 = t then some [(pc + len, zput lc j a, r, h, S)] else none
  | [] => none
def zs_ar (f : zS → zA → zA → zS × zA) (pc : Nat) (lc : zL) (st : List zA) (h : List zC) (S : zS) : Option (List zT) := match st with
  | b :: a :: r => if a.1 = 0 ∧ b.1 = 0 then some [(pc + 1, lc, (f S a b).2 :: r, h, (f S a b).1)] else none
  | _ => none
def zs_rem (pc : Nat) (lc : zL) (st : List zA) (h : List zC) (S : zS) : Option (List zT) := match st with
  | b :: a :: r => if a.1 = 0 ∧ b.1 = 0 ∧ b.2.1 = 0 ∧ b.2.2.1 = 0 ∧ 0 < b.2.2.2 ∧ b.2.2.2 ≤ 2147483647 ∧ z32 S.1 a = true then some ((match zref 2 S.1 a (0, 0, 0, 0) with
      | none => []
      | some L' => [(pc + 1, lc, zvar (L', S.2.1, S.2.2) :: r, h, zpush (L', S.2.1, S.2.2) (1 - b.2.2.2, 0))]) ++ (match zref 3 S.1 a (0, 0, 0, 0) with
      | none => []
      | some L' => [(pc + 1, lc, zvar (L', S.2.1, S.2.2) :: r, h, zpush (L', S.2.1, S.2.2) (0, b.2.2.2 - 1))])) else none
  | _ => none
def zs_inc (n : Int) (j pc : Nat) (lc : zL) (st : List zA) (h : List zC) (S : zS) : Option (List zT) := match zget lc j with
  | some a => if a.1 = 0 then some [(pc + 3, zput lc j (zadd S a (0, 0, 0, n)).2, st, h, (zadd S a (0, 0, 0, n)).1)] else none
  | none => none
def zs_if (op t pc : Nat) (lc : zL) (st : List zA) (h : List zC) (S : zS) : Option (List zT) := match st with
  | a :: r => if a.1 = 0 ∧ z32 S.1 a = true then some (zbr op S a (0, 0, 0, 0) t lc r h ++ zbr (znot op) S a (0, 0, 0, 0) (pc + 3) lc r h) else none
  | [] => none
def zs_icmp (op t pc : Nat) (lc : zL) (st : List zA) (h : List zC) (S : zS) : Option (List zT) := match st with
  | b :: a :: r => if a.1 = 0 ∧ b.1 = 0 ∧ z32 S.1 a = true ∧ z32 S.1 b = true then some (zbr op S a b t lc r h ++ zbr (znot op) S a b (pc + 3) lc r h) else none
  | _ => none
def zs_get (ci k pc : Nat) (lc : zL) (st : List zA) (h : List zC) (S : zS) : Option (List zT) := match st with
  | a :: r => if a.1 = 2 then (match h[a.2.2.1]? with
    | some c => if c.1 = 0 ∧ c.2.1 = ci then (match c.2.2.2.2[k]? with
      | some b => some [(pc + 3, lc, b :: r, h, S)]
      | none => none) else none
    | none => none) else none
  | [] => none
def zs_put (ci k pc : Nat) (z : Bool) (lc : zL) (st : List zA) (h : List zC) (S : zS) : Option (List zT) := match st with
  | b :: a :: r => if a.1 = 2 ∧ b.1 = 0 then (match h[a.2.2.1]? with
    | some c => if c.1 = 0 ∧ c.2.1 = ci ∧ k < c.2.2.2.2.length ∧ (z = false ∨ zin S.1 b 0 1 = true) then some [(pc + 3, lc, r, h.set a.2.2.1 (0, ci, c.2.2.1, c.2.2.2.1, c.2.2.2.2.set k b), S)] else none
    | none => none) else none
  | _ => none
def zs_scr (i : Nat) (b : zA) (pc : Nat) (lc : zL) (r : List zA) (h : List zC) (S : zS) : Option (List zT) := if i = 119 ∧ zsix S b = true then (match zsfd b S.2.2 with
    | some v => some [(pc + 1, lc, (0, 1, v, 0) :: r, h, S)]
    | none => some [(pc + 1, lc, zvar S :: r, h, ((zpush S zfull).1, (zpush S zfull).2.1, (S.1.length, 100, b) :: (zpush S zfull).2.2))]) else none
def zs_iald (rul : Nat → List zI) (i pc : Nat) (lc : zL) (st : List zA) (h : List zC) (S : zS) : Option (List zT) := match st with
  | b :: a :: r => if a.1 = 2 ∧ b.1 = 0 then (match h[a.2.2.1]? with
    | some c => if c.2.2.2.1 < 100 ∧ c.2.1 = 0 ∧ c.2.2.1 < 2147483648 ∧ zin S.1 b 0 ((c.2.2.1 : Int) - 1) = true then
        (if c.1 = 2 then some [(pc + 1, lc, zvar S :: r, h.set a.2.2.1 (2, 0, c.2.2.1, c.2.2.2.1, zrp c.2.2.2.1 b (zvar S) c.2.2.2.2), ((zpush S (zrb c.2.2.2.1 S c.2.2.2.2 b (zrd (rul c.2.2.2.1) b))).1, (zpush S (zrb c.2.2.2.1 S c.2.2.2.2 b (zrd (rul c.2.2.2.1) b))).2.1, (S.1.length, c.2.2.2.1, b) :: (zpush S (zrb c.2.2.2.1 S c.2.2.2.2 b (zrd (rul c.2.2.2.1) b))).2.2))]
        else if c.1 = 1 ∧ c.2.2.2.2.all (fun d => d.1 == 0) = true then some (zeach S b c.2.2.1 (fun j L' => match c.2.2.2.2[j]? with
          | some d => [(pc + 1, lc, d :: r, h, (L', S.2.1, S.2.2))]
          | none => [])) else none) else none
    | none => if a = (2, 0, 43, 0) then zs_scr i b pc lc r h S else none) else none
  | _ => none
def zs_iast (rul : Nat → List zI) (pc : Nat) (lc : zL) (st : List zA) (h : List zC) (S : zS) : Option (List zT) := match st with
  | d :: b :: a :: r => if a.1 = 2 ∧ b.1 = 0 ∧ d.1 = 0 then (match h[a.2.2.1]? with
    | some c => if c.2.2.2.1 < 100 ∧ c.2.1 = 0 ∧ c.2.2.1 < 2147483648 ∧ zin S.1 b 0 ((c.2.2.1 : Int) - 1) = true then
        (if c.1 = 2 then (if zwr S c.2.2.2.1 (rul c.2.2.2.1) b d = true then (match zwp c.2.2.2.1 S b d c.2.2.2.2 with
          | some fs' => some [(pc + 1, lc, r, h.set a.2.2.1 (2, 0, c.2.2.1, c.2.2.2.1, fs'), S)]
          | none => none) else none)
        else if c.1 = 1 then some (zeach S b c.2.2.1 (fun j L' => [(pc + 1, lc, r, h.set a.2.2.1 (1, 0, c.2.2.1, c.2.2.2.1, c.2.2.2.2.set j d), (L', S.2.1, S.2.2))])) else none) else none
    | none => none) else none
  | _ => none
def zs_aald (pc : Nat) (lc : zL) (st : List zA) (h : List zC) (S : zS) : Option (List zT) := match st with
  | b :: a :: r => if a.1 = 2 ∧ b.1 = 0 then (match h[a.2.2.1]? with
    | some c => if c.1 = 3 ∧ (c.2.1 = 2 ∨ c.2.1 = 3) ∧ c.2.2.1 < 2147483648 ∧ zin S.1 b 0 ((c.2.2.1 : Int) - 1) = true ∧ c.2.2.2.2.all (fun d => d.1 == 2) = true then some (zeach S b c.2.2.1 (fun j L' => match c.2.2.2.2[j]? with
          | some d => [(pc + 1, lc, d :: r, h, (L', S.2.1, S.2.2))]
          | none => [])) else none
    | none => none) else none
  | _ => none
def zs_last (pc : Nat) (lc : zL) (st : List zA) (h : List zC) (S : zS) : Option (List zT) := match st with
  | d :: b :: a :: r => if a.1 = 2 ∧ b.1 = 0 ∧ d.1 = 1 ∧ b.2.1 = 0 then (match h[a.2.2.1]? with
    | some c => if c.1 = 4 ∧ c.2.1 = 1 ∧ c.2.2.1 < 2147483648 ∧ zin S.1 b ((b.2.2.2.toNat : Nat) : Int) ((b.2.2.2.toNat : Nat) : Int) = true ∧ b.2.2.2.toNat < c.2.2.1 then some [(pc + 1, lc, r, h.set a.2.2.1 (4, 1, c.2.2.1, c.2.2.2.1, c.2.2.2.2.set b.2.2.2.toNat d), S)] else none
    | none => none) else none
  | _ => none
def zs_lald (pc : Nat) (lc : zL) (st : List zA) (h : List zC) (S : zS) : Option (List zT) := match st with
  | b :: a :: r => if a.1 = 2 ∧ b.1 = 0 ∧ b.2.1 = 0 then (match h[a.2.2.1]? with
    | some c => if c.1 = 4 ∧ c.2.1 = 1 ∧ c.2.2.1 < 2147483648 ∧ zin S.1 b ((b.2.2.2.toNat : Nat) : Int) ((b.2.2.2.toNat : Nat) : Int) = true ∧ b.2.2.2.toNat < c.2.2.1 then (match c.2.2.2.2[b.2.2.2.toNat]? with
      | some d => if d.1 = 1 then some [(pc + 1, lc, d :: r, h, S)] else none
      | none => none) else none
    | none => none) else none
  | _ => none
def zs_lcmp (pc : Nat) (lc : zL) (st : List zA) (h : List zC) (S : zS) : Option (List zT) := match st with
  | b :: a :: r => if a.1 = 1 ∧ b.1 = 1 ∧ a.2 = b.2 then some [(pc + 1, lc, (0, 0, 0, 0) :: r, h, S)] else none
  | _ => none
def zs_ialdA (pc : Nat) (lc : zL) (st : List zA) (h : List zC) (S : zS) : Option (List zT) := match st with
  | b :: a :: r => if a.1 = 2 ∧ b.1 = 0 then (match h[a.2.2.1]? with
    | some c => if c.1 = 1 ∧ c.2.1 = 0 ∧ c.2.2.1 < 2147483648 ∧ zin S.1 b 0 ((c.2.2.1 : Int) - 1) = true then some [(pc + 1, lc, zvar S :: r, h, zpush S zfull)] else none
    | none => none) else none
  | _ => none
def zs_if3 (t pc : Nat) (lc : zL) (st : List zA) (h : List zC) (S : zS) : Option (List zT) := match st with
  | a :: r => if a.1 = 0 ∧ z32 S.1 a = true then some (zbr 0 S a (0, 0, 0, 0) t lc r h ++ (zbr 2 S a (0, 0, 0, 0) (pc + 3) lc r h ++ zbr 4 S a (0, 0, 0, 0) (pc + 3) lc r h)) else none
  | [] => none
def zs_xor (pc : Nat) (lc : zL) (st : List zA) (h : List zC) (S : zS) : Option (List zT) := match st with
  | b :: a :: r => if a.1 = 0 ∧ b.1 = 0 ∧ z32 S.1 a = true ∧ zin S.1 b 0 2147483647 = true then some ((match zref 2 S.1 a (0, 0, 0, 0) with
      | none => []
      | some L' => [(pc + 1, lc, zvar (L', S.2.1, S.2.2) :: r, h, zpush (L', S.2.1, S.2.2) (-2147483648, -1))]) ++ (match zref 3 S.1 a (0, 0, 0, 0) with
      | none => []
      | some L' => [(pc + 1, lc, zvar (L', S.2.1, S.2.2) :: r, h, zpush (L', S.2.1, S.2.2) (0, 2147483647))])) else none
  | _ => none
def zs_tab (lo : Int) (t n : Nat) (ts : List Nat) (lc : zL) (st : List zA) (h : List zC) (S : zS) : Option (List zT) := match st with
  | a :: r => if a.1 = 0 ∧ z32 S.1 a = true then some (zsw 2 S a (0, 0, 0, lo) t lc r h ++ (zsw 4 S a (0, 0, 0, lo + (n : Int) - 1) t lc r h ++ (List.range n).flatMap (fun (j : Nat) => match ts[j]? with
      | some t2 => zsw 0 S a (0, 0, 0, lo + (j : Int)) t2 lc r h
      | none => []))) else none
  | [] => none
def zwords (st : List zA) : Nat := (st.map fun a => if a.1 = 1 then 2 else 1).sum
def zs_cpy (fr lo pc : Nat) (lc : zL) (st : List zA) (h : List zC) (S : zS) : Option (List zT) := match st with
  | n :: dp :: qd :: sp :: qs :: r => if n.1 = 0 ∧ dp.1 = 0 ∧ qd.1 = 2 ∧ sp.1 = 0 ∧ qs.1 = 2 ∧ 1 ≤ fr ∧ zwords r + (nativeFrameWords "java/lang/System" "arraycopy" 5 + 11) ≤ lo ∧ zin S.1 dp 0 0 = true ∧ zin S.1 sp 0 0 = true then (match h[qd.2.2.1]? with
    | some c => (match h[qs.2.2.1]? with
      | some c2 => if c.1 = 2 ∧ c2.1 = 2 ∧ c.2.1 = 0 ∧ c2.2.1 = 0 ∧ c.2.2.2.1 = c2.2.2.2.1 ∧ ¬ c.2.2.2.1 = 1 ∧ ¬ c.2.2.2.1 = 2 ∧ c.2.2.1 < 2147483648 ∧ c2.2.2.1 < 2147483648 ∧ zin S.1 n 0 (c2.2.2.1 : Int) = true ∧ zin S.1 n 0 (c.2.2.1 : Int) = true then some [(pc + 3, lc, r, h, S)] else none
      | none => none)
    | none => none) else none
  | _ => none
def zs_1 (f : zA → List zA → Option (List zA)) (len pc : Nat) (lc : zL) (st : List zA) (h : List zC) (S : zS) : Option (List zT) := match st with
  | a :: r => match f a r with
    | some st' => some [(pc + len, lc, st', h, S)]
    | none => none
  | [] => none
def zs_alen (i pc : Nat) (lc : zL) (st : List zA) (h : List zC) (S : zS) : Option (List zT) := match st with
  | a :: r => if i = 119 ∧ a = (2, 0, 43, 0) then some [(pc + 1, lc, zvar S :: r, h, ((zpush S (0, 3072)).1, (zpush S (0, 3072)).2.1, (S.1.length, 101, (0, 0, 0, 0)) :: (zpush S (0, 3072)).2.2))] else none
  | [] => none
def zs_and (pc : Nat) (lc : zL) (st : List zA) (h : List zC) (S : zS) : Option (List zT) := match st with
  | b :: a :: r => if a.1 = 0 ∧ b = (0, 0, 0, 31) then some [(pc + 1, lc, zvar S :: r, h, zpush S (0, 31))] else none
  | _ => none
def zs_loop (kl kz kd ks pc : Nat) (lc : zL) (st : List zA) (h : List zC) (S : zS) : Option (List zT) := match zget lc kl with
  | some k0 => (match zget lc 0 with
    | some me => (match h[me.2.2.1]? with
      | some c => (match c.2.2.2.2[kz]? with
        | some sz => (match c.2.2.2.2[kd]? with
          | some ds => (match c.2.2.2.2[ks]? with
            | some sr => (match h[ds.2.2.1]? with
              | some cd => (match h[sr.2.2.1]? with
                | some cs => if (st = [] ∧ k0 = (0, 0, 0, 0) ∧ me.1 = 2 ∧ c.1 = 0 ∧ c.2.1 = 4) ∧ (sz.1 = 0 ∧ zin S.1 sz 0 400 = true ∧ ds.1 = 2 ∧ sr.1 = 2 ∧ ¬ ds.2.2.1 = sr.2.2.1) ∧ (cd.1 = 2 ∧ cd.2.1 = 0 ∧ cd.2.2.1 = 5200 ∧ cd.2.2.2.1 = 1 ∧ cd.2.2.2.2.length < 3) ∧ (cs.1 = 2 ∧ cs.2.1 = 0 ∧ cs.2.2.1 = 5200 ∧ cs.2.2.2.1 = 1 ∧ cs.2.2.2.2.length < 3) then some [(pc + 29, zput lc kl (zvar S), [], h.set ds.2.2.1 (2, 0, 5200, 1, []), zpush S (0, 5200))] else none
                | none => none)
              | none => none)
            | none => none)
          | none => none)
        | none => none)
      | none => none)
    | none => none)
  | none => none
def zsucc (rul : Nat → List zI) (fr lo i pc : Nat) (o : zO) (lc : zL) (st : List zA) (h : List zC) (S : zS) : Option (List zT) := match o.1 with
  | 1 => zs_ld 0 1 o.2.2.1 pc lc st h S
  | 2 => zs_ld 0 2 o.2.2.1 pc lc st h S
  | 3 => zs_ld 2 1 o.2.2.1 pc lc st h S
  | 4 => zs_ld 2 2 o.2.2.1 pc lc st h S
  | 5 => zs_sto 0 1 o.2.2.1 pc lc st h S
  | 6 => zs_sto 0 2 o.2.2.1 pc lc st h S
  | 7 => zs_sto 2 1 o.2.2.1 pc lc st h S
  | 8 => zs_sto 2 2 o.2.2.1 pc lc st h S
  | 9 => some [(pc + 1, lc, (0, 0, 0, o.2.1) :: st, h, S)]
  | 10 => some [(pc + 2, lc, (0, 0, 0, o.2.1) :: st, h, S)]
  | 11 => some [(pc + 3, lc, (0, 0, 0, o.2.1) :: st, h, S)]
  | 12 => zs_ar zadd pc lc st h S
  | 13 => zs_ar zsub pc lc st h S
  | 14 => zs_ar zmul pc lc st h S
  | 15 => zs_rem pc lc st h S
  | 17 => zs_inc o.2.1 o.2.2.1 pc lc st h S
  | 18 => some [(o.2.2.1, lc, st, h, S)]
  | 19 => zs_if o.2.2.2.1 o.2.2.1 pc lc st h S
  | 20 => zs_icmp o.2.2.2.1 o.2.2.1 pc lc st h S
  | 21 => zs_get o.2.2.1 o.2.2.2.1 pc lc st h S
  | 22 => match vwCl[o.2.2.1]? with
    | some r => zs_put o.2.2.1 o.2.2.2.1 pc (decide (parseFieldDescriptor (r.2.1 o.2.2.2.1).2.2.1 = some .boolean)) lc st h S
    | none => none
  | 23 => zs_iald rul i pc lc st h S
  | 24 => zs_iast rul pc lc st h S
  | 25 => zs_aald pc lc st h S
  | 26 => zs_last pc lc st h S
  | 27 => zs_1 (fun a r => if a.1 = 0 ∧ z32 S.1 a = true then some ((1, a.2) :: r) else none) 1 pc lc st h S
  | 28 => some [(pc + 1, lc, (1, 0, 0, ((o.2.1.toNat : Nat) : Int)) :: st, h, S)]
  | 29 => zs_1 (fun a r => if a.1 = 1 then none else some (a :: a :: r)) 1 pc lc st h S
  | 30 => zs_1 (fun b r => match r with
      | a :: r2 => if a.1 = 1 ∨ b.1 = 1 then none else some (b :: a :: b :: a :: r2)
      | [] => none) 1 pc lc st h S
  | 31 => zs_1 (fun a r => if a.1 = 1 then none else some r) 1 pc lc st h S
  | 37 => zs_tab o.2.1 o.2.2.1 o.2.2.2.1 o.2.2.2.2.2 lc st h S
  | 38 => zs_cpy fr lo pc lc st h S
  | 40 => zs_lald pc lc st h S
  | 41 => zs_lcmp pc lc st h S
  | 62 => zs_ialdA pc lc st h S
  | 61 => zs_if3 o.2.2.1 pc lc st h S
  | 42 => zs_xor pc lc st h S
  | 43 => zs_alen i pc lc st h S
  | 44 => zs_and pc lc st h S
  | 60 => zs_loop o.2.2.1 (o.2.2.2.2.2.getD 0 0) o.2.2.2.1 o.2.2.2.2.1 pc lc st h S
  | _ => none
end
section
/-! ===== what a step asked for ===== -/
section ZV
variable {rul : Nat → List zI} {lc : zL} {st : List zA} {h : List zC} {S : zS} {L : List zT} {pc t len j : Nat}
theorem zs_ld_ok (hs : zs_ld t len j pc lc st h S = some L) : ∃ a, zget lc j = some a ∧ a.1 = t ∧ L = [(pc + len, lc, a :: st, h, S)] := by
  unfold zs_ld at hs
  cases hg : zget lc j with
  | none => rw [hg] at hs; cases hs
  | some a =>
    rw [hg] at hs
    by_cases c : a.1 = t
    · simp only [if_pos c] at hs
      exact ⟨a, rfl, c, (Option.some.inj hs).symm⟩
    · simp only [if_neg c] at hs
      cases hs
theorem zs_sto_ok (hs : zs_sto t len j pc lc st h S = some L) : ∃ a r, st = a :: r ∧ a.1 = t ∧ L = [(pc + len, zput lc j a, r, h, S)] := by
  cases st with
  | nil => cases hs
  | cons a r =>
    unfold zs_sto at hs
    by_cases c : a.1 = t
    · simp only [if_pos c] at hs
      exact ⟨a, r, rfl, c, (Option.some.inj hs).symm⟩
    · simp only [if_neg c] at hs
      cases hs
theorem zs_ar_ok {f : zS → zA → zA → zS × zA} (hs : zs_ar f pc lc st h S = some L) : ∃ a b r, st = b :: a :: r ∧ a.1 = 0 ∧ b.1 = 0 ∧ L = [(pc + 1, lc, (f S a b).2 :: r, h, (f S a b).1)] := by
  match st, hs with
  | [], hs => cases hs
  | [_], hs => cases hs
  | b :: a :: r, hs =>
    unfold zs_ar at hs
    by_cases c : a.1 = 0 ∧ b.1 = 0
    · simp only [if_pos c] at hs
      exact ⟨a, b, r, rfl, c.1, c.2, (Option.some.inj hs).symm⟩
    · simp only [if_neg c] at hs
      cases hs
theorem zs_rem_ok (hs : zs_rem pc lc st h S = some L) : ∃ (a : zA) (n : Int) (r : List zA), st = (0, 0, 0, n) :: a :: r ∧ a.1 = 0 ∧ 0 < n ∧ n ≤ 2147483647 ∧ z32 S.1 a = true ∧
    (∀ L' : List zI, zref 2 S.1 a (0, 0, 0, 0) = some L' → (pc + 1, lc, zvar (L', S.2.1, S.2.2) :: r, h, zpush (L', S.2.1, S.2.2) (1 - n, 0)) ∈ L) ∧ ∀ L' : List zI, zref 3 S.1 a (0, 0, 0, 0) = some L' → (pc + 1, lc, zvar (L', S.2.1, S.2.2) :: r, h, zpush (L', S.2.1, S.2.2) (0, n - 1)) ∈ L := by
  match st, hs with
  | [], hs => cases hs
  | [_], hs => cases hs
  | (b0, b1, b2, b3) :: a :: r, hs =>
    unfold zs_rem at hs
    by_cases c : a.1 = 0 ∧ b0 = 0 ∧ b1 = 0 ∧ b2 = 0 ∧ 0 < b3 ∧ b3 ≤ 2147483647 ∧ z32 S.1 a = true
    · simp only [if_pos c] at hs
      obtain ⟨c1, rfl, rfl, rfl, c2, c3, c4⟩ := c
      refine ⟨a, b3, r, rfl, c1, c2, c3, c4, fun L' hr => ?_, fun L' hr => ?_⟩
      · rw [← Option.some.inj hs, hr]
        exact List.mem_append_left _ (List.mem_singleton.mpr rfl)
      · rw [← Option.some.inj hs, hr]
        exact List.mem_append_right _ (List.mem_singleton.mpr rfl)
    · simp only [if_neg c] at hs
      cases hs
theorem zs_inc_ok {n : Int} (hs : zs_inc n j pc lc st h S = some L) : ∃ a, zget lc j = some a ∧ a.1 = 0 ∧ L = [(pc + 3, zput lc j (zadd S a (0, 0, 0, n)).2, st, h, (zadd S a (0, 0, 0, n)).1)] := by
  unfold zs_inc at hs
  cases hg : zget lc j with
  | none => rw [hg] at hs; cases hs
  | some a =>
    rw [hg] at hs
    by_cases c : a.1 = 0
    · simp only [if_pos c] at hs
      exact ⟨a, rfl, c, (Option.some.inj hs).symm⟩
    · simp only [if_neg c] at hs
      cases hs
theorem zs_if_ok {op : Nat} (hs : zs_if op t pc lc st h S = some L) : ∃ a r, st = a :: r ∧ a.1 = 0 ∧ z32 S.1 a = true ∧ L = zbr op S a (0, 0, 0, 0) t lc r h ++ zbr (znot op) S a (0, 0, 0, 0) (pc + 3) lc r h := by
  cases st with
  | nil => cases hs
  | cons a r =>
    unfold zs_if at hs
    by_cases c : a.1 = 0 ∧ z32 S.1 a = true
    · simp only [if_pos c] at hs
      exact ⟨a, r, rfl, c.1, c.2, (Option.some.inj hs).symm⟩
    · simp only [if_neg c] at hs
      cases hs
theorem zs_icmp_ok {op : Nat} (hs : zs_icmp op t pc lc st h S = some L) : ∃ a b r, st = b :: a :: r ∧ a.1 = 0 ∧ b.1 = 0 ∧ z32 S.1 a = true ∧ z32 S.1 b = true ∧ L = zbr op S a b t lc r h ++ zbr (znot op) S a b (pc + 3) lc r h := by
  match st, hs with
  | [], hs => cases hs
  | [_], hs => cases hs
  | b :: a :: r, hs =>
    unfold zs_icmp at hs
    by_cases c : a.1 = 0 ∧ b.1 = 0 ∧ z32 S.1 a = true ∧ z32 S.1 b = true
    · simp only [if_pos c] at hs
      exact ⟨a, b, r, rfl, c.1, c.2.1, c.2.2.1, c.2.2.2, (Option.some.inj hs).symm⟩
    · simp only [if_neg c] at hs
      cases hs
theorem zbr_mem {op : Nat} {a b : zA} {L' : List zI} (hr : zref op S.1 a b = some L') : (t, lc, st, h, (L', zfact op a b ++ S.2.1, S.2.2)) ∈ zbr op S a b t lc st h := by
  unfold zbr
  rw [hr]
  exact List.mem_singleton.mpr rfl
theorem zsw_mem {op : Nat} {a b : zA} {L' : List zI} (hr : zref op S.1 a b = some L') : (t, lc, st, h, (L', S.2.1, S.2.2)) ∈ zsw op S a b t lc st h := by
  unfold zsw
  rw [hr]
  exact List.mem_singleton.mpr rfl
theorem zeach_mem {b : zA} {n k : Nat} {g : Nat → List zI → List zT} {L' : List zI} {x : zT} (hk : k < n) (hr : zref 0 S.1 b (0, 0, 0, (k : Int)) = some L') (hx : x ∈ g k L') : x ∈ zeach S b n g := by
  unfold zeach
  refine List.mem_flatMap.mpr ⟨k, List.mem_range.mpr hk, ?_⟩
  rw [hr]
  exact hx
theorem zs_get_ok {ci k : Nat} (hs : zs_get ci k pc lc st h S = some L) : ∃ (a : zA) (r : List zA) (n rr : Nat) (fs : List zA) (b : zA), st = a :: r ∧ a.1 = 2 ∧ h[a.2.2.1]? = some (0, ci, n, rr, fs) ∧ fs[k]? = some b ∧ L = [(pc + 3, lc, b :: r, h, S)] := by
  cases st with
  | nil => cases hs
  | cons a r =>
    unfold zs_get at hs
    by_cases c : a.1 = 2
    · simp only [if_pos c] at hs
      cases hh : h[a.2.2.1]? with
      | none => rw [hh] at hs; cases hs
      | some q =>
        rw [hh] at hs
        obtain ⟨q0, q1, q2, q3, q4⟩ := q
        by_cases c2 : q0 = 0 ∧ q1 = ci
        · obtain ⟨rfl, rfl⟩ := c2
          simp only [and_self, if_true] at hs
          cases hb : q4[k]? with
          | none => rw [hb] at hs; cases hs
          | some b =>
            rw [hb] at hs
            exact ⟨a, r, q2, q3, q4, b, rfl, c, hh, hb, (Option.some.inj hs).symm⟩
        · simp only [if_neg c2] at hs
          cases hs
    · simp only [if_neg c] at hs
      cases hs
theorem zs_put_ok {ci k : Nat} {z : Bool} (hs : zs_put ci k pc z lc st h S = some L) : ∃ (a b : zA) (r : List zA) (n rr : Nat) (fs : List zA), st = b :: a :: r ∧ a.1 = 2 ∧ b.1 = 0 ∧ h[a.2.2.1]? = some (0, ci, n, rr, fs) ∧ k < fs.length ∧ (z = false ∨ zin S.1 b 0 1 = true) ∧ L = [(pc + 3, lc, r, h.set a.2.2.1 (0, ci, n, rr, fs.set k b), S)] := by
  match st, hs with
  | [], hs => cases hs
  | [_], hs => cases hs
  | b :: a :: r, hs =>
    unfold zs_put at hs
    by_cases c : a.1 = 2 ∧ b.1 = 0
    · simp only [if_pos c] at hs
      cases hh : h[a.2.2.1]? with
      | none => rw [hh] at hs; cases hs
      | some q =>
        rw [hh] at hs
        obtain ⟨q0, q1, q2, q3, q4⟩ := q
        simp only at hs
        by_cases c2 : q0 = 0 ∧ q1 = ci ∧ k < q4.length ∧ (z = false ∨ zin S.1 b 0 1 = true)
        · rw [if_pos c2] at hs
          obtain ⟨rfl, rfl, c3, c4⟩ := c2
          exact ⟨a, b, r, q2, q3, q4, rfl, c.1, c.2, hh, c3, c4, (Option.some.inj hs).symm⟩
        · rw [if_neg c2] at hs
          cases hs
    · simp only [if_neg c] at hs
      cases hs
theorem zall {fs : List zA} {t : Nat} (h : fs.all (fun d => d.1 == t) = true) : ∀ d ∈ fs, d.1 = t := fun d hd => by
  have := List.all_eq_true.mp h d hd
  simpa using this
theorem zs_scr_ok {i : Nat} {b : zA} {r : List zA} (hs : zs_scr i b pc lc r h S = some L) : i = 119 ∧ zsix S b = true ∧
    (∀ v : Nat, zsfd b S.2.2 = some v → L = [(pc + 1, lc, (0, 1, v, 0) :: r, h, S)]) ∧ (zsfd b S.2.2 = none → L = [(pc + 1, lc, zvar S :: r, h, ((zpush S zfull).1, (zpush S zfull).2.1, (S.1.length, 100, b) :: (zpush S zfull).2.2))]) := by
  unfold zs_scr at hs
  by_cases c : i = 119 ∧ zsix S b = true
  · rw [if_pos c] at hs
    refine ⟨c.1, c.2, fun v hv => ?_, fun hv => ?_⟩
    · rw [hv] at hs; exact (Option.some.inj hs).symm
    · rw [hv] at hs; exact (Option.some.inj hs).symm
  · rw [if_neg c] at hs
    cases hs
theorem zs_iald_ok {i : Nat} (hs : zs_iald rul i pc lc st h S = some L) : ∃ (a b : zA) (r : List zA), st = b :: a :: r ∧ a.1 = 2 ∧ b.1 = 0 ∧ ((a = (2, 0, 43, 0) ∧ zs_scr i b pc lc r h S = some L) ∨ ∃ (n rr : Nat) (fs : List zA), rr < 100 ∧ n < 2 ^ 31 ∧ zin S.1 b 0 ((n : Int) - 1) = true ∧
    ((h[a.2.2.1]? = some (2, 0, n, rr, fs) ∧ L = [(pc + 1, lc, zvar S :: r, h.set a.2.2.1 (2, 0, n, rr, zrp rr b (zvar S) fs), ((zpush S (zrb rr S fs b (zrd (rul rr) b))).1, (zpush S (zrb rr S fs b (zrd (rul rr) b))).2.1, (S.1.length, rr, b) :: (zpush S (zrb rr S fs b (zrd (rul rr) b))).2.2))]) ∨
     (h[a.2.2.1]? = some (1, 0, n, rr, fs) ∧ (∀ d ∈ fs, d.1 = 0) ∧ ∀ (j : Nat) (L' : List zI) (d : zA), j < n → zref 0 S.1 b (0, 0, 0, (j : Int)) = some L' → fs[j]? = some d → (pc + 1, lc, d :: r, h, (L', S.2.1, S.2.2)) ∈ L))) := by
  match st, hs with
  | [], hs => cases hs
  | [_], hs => cases hs
  | b :: a :: r, hs =>
    unfold zs_iald at hs
    by_cases c : a.1 = 2 ∧ b.1 = 0
    · simp only [if_pos c] at hs
      refine ⟨a, b, r, rfl, c.1, c.2, ?_⟩
      cases hh : h[a.2.2.1]? with
      | none =>
        rw [hh] at hs
        simp only at hs
        by_cases ca : a = (2, 0, 43, 0)
        · rw [if_pos ca] at hs
          exact Or.inl ⟨ca, hs⟩
        · rw [if_neg ca] at hs
          cases hs
      | some q =>
        refine Or.inr ?_
        rw [hh] at hs
        obtain ⟨q0, q1, q2, q3, q4⟩ := q
        simp only at hs
        by_cases c2 : q3 < 100 ∧ q1 = 0 ∧ q2 < 2147483648 ∧ zin S.1 b 0 ((q2 : Int) - 1) = true
        · rw [if_pos c2] at hs
          obtain ⟨cr, rfl, c3, c4⟩ := c2
          by_cases c5 : q0 = 2
          · rw [if_pos c5] at hs
            subst c5
            exact ⟨q2, q3, q4, cr, c3, c4, Or.inl ⟨rfl, (Option.some.inj hs).symm⟩⟩
          · rw [if_neg c5] at hs
            by_cases c6 : q0 = 1 ∧ q4.all (fun d => d.1 == 0) = true
            · rw [if_pos c6] at hs
              obtain ⟨rfl, c7⟩ := c6
              refine ⟨q2, q3, q4, cr, c3, c4, Or.inr ⟨rfl, zall c7, fun j L' d hj hr hd => ?_⟩⟩
              rw [← Option.some.inj hs]
              exact zeach_mem hj hr (by rw [hd]; exact List.mem_singleton.mpr rfl)
            · rw [if_neg c6] at hs
              cases hs
        · rw [if_neg c2] at hs
          cases hs
    · simp only [if_neg c] at hs
      cases hs
theorem zs_iast_ok (hs : zs_iast rul pc lc st h S = some L) : ∃ (a b d : zA) (r : List zA) (n rr : Nat) (fs : List zA), st = d :: b :: a :: r ∧ a.1 = 2 ∧ b.1 = 0 ∧ d.1 = 0 ∧ rr < 100 ∧ n < 2 ^ 31 ∧ zin S.1 b 0 ((n : Int) - 1) = true ∧
    ((h[a.2.2.1]? = some (2, 0, n, rr, fs) ∧ zwr S rr (rul rr) b d = true ∧ ∃ fs' : List zA, zwp rr S b d fs = some fs' ∧ L = [(pc + 1, lc, r, h.set a.2.2.1 (2, 0, n, rr, fs'), S)]) ∨
     (h[a.2.2.1]? = some (1, 0, n, rr, fs) ∧ ∀ (j : Nat) (L' : List zI), j < n → zref 0 S.1 b (0, 0, 0, (j : Int)) = some L' → (pc + 1, lc, r, h.set a.2.2.1 (1, 0, n, rr, fs.set j d), (L', S.2.1, S.2.2)) ∈ L)) := by
  match st, hs with
  | [], hs => cases hs
  | [_], hs => cases hs
  | [_, _], hs => cases hs
  | d :: b :: a :: r, hs =>
    unfold zs_iast at hs
    by_cases c : a.1 = 2 ∧ b.1 = 0 ∧ d.1 = 0
    · simp only [if_pos c] at hs
      cases hh : h[a.2.2.1]? with
      | none => rw [hh] at hs; cases hs
      | some q =>
        rw [hh] at hs
        obtain ⟨q0, q1, q2, q3, q4⟩ := q
        simp only at hs
        by_cases c2 : q3 < 100 ∧ q1 = 0 ∧ q2 < 2147483648 ∧ zin S.1 b 0 ((q2 : Int) - 1) = true
        · rw [if_pos c2] at hs
          obtain ⟨cr, rfl, c3, c4⟩ := c2
          by_cases c5 : q0 = 2
          · rw [if_pos c5] at hs
            subst c5
            by_cases c8 : zwr S q3 (rul q3) b d = true
            · rw [if_pos c8] at hs
              cases hp : zwp q3 S b d q4 with
              | none => rw [hp] at hs; cases hs
              | some fs' =>
                rw [hp] at hs
                exact ⟨a, b, d, r, q2, q3, q4, rfl, c.1, c.2.1, c.2.2, cr, c3, c4, Or.inl ⟨hh, c8, fs', hp, (Option.some.inj hs).symm⟩⟩
            · rw [if_neg c8] at hs
              cases hs
          · rw [if_neg c5] at hs
            by_cases c6 : q0 = 1
            · rw [if_pos c6] at hs
              subst c6
              refine ⟨a, b, d, r, q2, q3, q4, rfl, c.1, c.2.1, c.2.2, cr, c3, c4, Or.inr ⟨hh, fun j L' hj hr => ?_⟩⟩
              rw [← Option.some.inj hs]
              exact zeach_mem hj hr (List.mem_singleton.mpr rfl)
            · rw [if_neg c6] at hs
              cases hs
        · rw [if_neg c2] at hs
          cases hs
    · simp only [if_neg c] at hs
      cases hs
theorem zs_alen_ok {i : Nat} (hs : zs_alen i pc lc st h S = some L) : ∃ r : List zA, st = (2, 0, 43, 0) :: r ∧ i = 119 ∧ L = [(pc + 1, lc, zvar S :: r, h, ((zpush S (0, 3072)).1, (zpush S (0, 3072)).2.1, (S.1.length, 101, (0, 0, 0, 0)) :: (zpush S (0, 3072)).2.2))] := by
  cases st with
  | nil => cases hs
  | cons a r =>
    unfold zs_alen at hs
    by_cases c : i = 119 ∧ a = (2, 0, 43, 0)
    · simp only [if_pos c] at hs
      obtain ⟨c1, rfl⟩ := c
      exact ⟨r, rfl, c1, (Option.some.inj hs).symm⟩
    · simp only [if_neg c] at hs
      cases hs
theorem zs_and_ok (hs : zs_and pc lc st h S = some L) : ∃ (a : zA) (r : List zA), st = (0, 0, 0, 31) :: a :: r ∧ a.1 = 0 ∧ L = [(pc + 1, lc, zvar S :: r, h, zpush S (0, 31))] := by
  match st, hs with
  | [], hs => cases hs
  | [_], hs => cases hs
  | b :: a :: r, hs =>
    unfold zs_and at hs
    by_cases c : a.1 = 0 ∧ b = (0, 0, 0, 31)
    · simp only [if_pos c] at hs
      obtain ⟨c1, rfl⟩ := c
      exact ⟨a, r, rfl, c1, (Option.some.inj hs).symm⟩
    · simp only [if_neg c] at hs
      cases hs
theorem zs_loop_ok {kl kz kd ks : Nat} (hs : zs_loop kl kz kd ks pc lc st h S = some L) : ∃ (me sz ds sr : zA) (len0 rr0 : Nat) (fs fd fr : List zA), st = [] ∧ zget lc kl = some (0, 0, 0, 0) ∧ zget lc 0 = some me ∧ me.1 = 2 ∧ h[me.2.2.1]? = some (0, 4, len0, rr0, fs) ∧ fs[kz]? = some sz ∧ sz.1 = 0 ∧ zin S.1 sz 0 400 = true ∧ fs[kd]? = some ds ∧ ds.1 = 2 ∧ fs[ks]? = some sr ∧ sr.1 = 2 ∧ ¬ ds.2.2.1 = sr.2.2.1 ∧ h[ds.2.2.1]? = some (2, 0, 5200, 1, fd) ∧ h[sr.2.2.1]? = some (2, 0, 5200, 1, fr) ∧ fd.length < 3 ∧ fr.length < 3 ∧ L = [(pc + 29, zput lc kl (zvar S), [], h.set ds.2.2.1 (2, 0, 5200, 1, []), zpush S (0, 5200))] := by
  unfold zs_loop at hs
  cases g1 : zget lc kl with
  | none => rw [g1] at hs; cases hs
  | some k0 =>
  rw [g1] at hs
  cases g2 : zget lc 0 with
  | none => rw [g2] at hs; cases hs
  | some me =>
  rw [g2] at hs
  simp only at hs
  cases g3 : h[me.2.2.1]? with
  | none => rw [g3] at hs; cases hs
  | some c =>
  rw [g3] at hs
  obtain ⟨c0, c1, c2, c3, fs⟩ := c
  simp only at hs
  cases g4 : fs[kz]? with
  | none => rw [g4] at hs; cases hs
  | some sz =>
  rw [g4] at hs
  simp only at hs
  cases g5 : fs[kd]? with
  | none => rw [g5] at hs; cases hs
  | some ds =>
  rw [g5] at hs
  simp only at hs
  cases g6 : fs[ks]? with
  | none => rw [g6] at hs; cases hs
  | some sr =>
  rw [g6] at hs
  simp only at hs
  cases g7 : h[ds.2.2.1]? with
  | none => rw [g7] at hs; cases hs
  | some cd =>
  rw [g7] at hs
  obtain ⟨e0, e1, e2, e3, fd⟩ := cd
  simp only at hs
  cases g8 : h[sr.2.2.1]? with
  | none => rw [g8] at hs; cases hs
  | some cs =>
  rw [g8] at hs
  obtain ⟨f0, f1, f2, f3, fr⟩ := cs
  simp only at hs
  split at hs
  · rename_i hc
    obtain ⟨⟨a1, rfl, a3, rfl, rfl⟩, ⟨b1, b2, b3, b4, b5⟩, ⟨rfl, rfl, rfl, rfl, b6⟩, ⟨rfl, rfl, rfl, rfl, b7⟩⟩ := hc
    exact ⟨me, sz, ds, sr, c2, c3, fs, fd, fr, a1, rfl, rfl, a3, g3, g4, b1, b2, g5, b3, g6, b4, b5, g7, g8, b6, b7, (Option.some.inj hs).symm⟩
  · cases hs
theorem zs_aald_ok (hs : zs_aald pc lc st h S = some L) : ∃ (a b : zA) (r : List zA) (n rr t : Nat) (fs : List zA), st = b :: a :: r ∧ a.1 = 2 ∧ b.1 = 0 ∧ n < 2 ^ 31 ∧ zin S.1 b 0 ((n : Int) - 1) = true ∧ (t = 2 ∨ t = 3) ∧ h[a.2.2.1]? = some (3, t, n, rr, fs) ∧ (∀ d ∈ fs, d.1 = 2) ∧
    ∀ (j : Nat) (L' : List zI) (d : zA), j < n → zref 0 S.1 b (0, 0, 0, (j : Int)) = some L' → fs[j]? = some d → (pc + 1, lc, d :: r, h, (L', S.2.1, S.2.2)) ∈ L := by
  match st, hs with
  | [], hs => cases hs
  | [_], hs => cases hs
  | b :: a :: r, hs =>
    unfold zs_aald at hs
    by_cases c : a.1 = 2 ∧ b.1 = 0
    · simp only [if_pos c] at hs
      cases hh : h[a.2.2.1]? with
      | none => rw [hh] at hs; cases hs
      | some q =>
        rw [hh] at hs
        obtain ⟨q0, q1, q2, q3, q4⟩ := q
        simp only at hs
        by_cases c2 : q0 = 3 ∧ (q1 = 2 ∨ q1 = 3) ∧ q2 < 2147483648 ∧ zin S.1 b 0 ((q2 : Int) - 1) = true ∧ q4.all (fun d => d.1 == 2) = true
        · rw [if_pos c2] at hs
          obtain ⟨rfl, c3, c4, c5, c6⟩ := c2
          refine ⟨a, b, r, q2, q3, q1, q4, rfl, c.1, c.2, c4, c5, c3, hh, zall c6, fun j L' d hj hr hd => ?_⟩
          rw [← Option.some.inj hs]
          exact zeach_mem hj hr (by rw [hd]; exact List.mem_singleton.mpr rfl)
        · rw [if_neg c2] at hs
          cases hs
    · simp only [if_neg c] at hs
      cases hs
theorem zs_last_ok (hs : zs_last pc lc st h S = some L) : ∃ (a b d : zA) (r : List zA) (n rr j : Nat) (fs : List zA), st = d :: b :: a :: r ∧ a.1 = 2 ∧ b.1 = 0 ∧ d.1 = 1 ∧ n < 2 ^ 31 ∧ zin S.1 b (j : Int) (j : Int) = true ∧ j < n ∧ h[a.2.2.1]? = some (4, 1, n, rr, fs) ∧ L = [(pc + 1, lc, r, h.set a.2.2.1 (4, 1, n, rr, fs.set j d), S)] := by
  match st, hs with
  | [], hs => cases hs
  | [_], hs => cases hs
  | [_, _], hs => cases hs
  | d :: b :: a :: r, hs =>
    unfold zs_last at hs
    by_cases c : a.1 = 2 ∧ b.1 = 0 ∧ d.1 = 1 ∧ b.2.1 = 0
    · simp only [if_pos c] at hs
      cases hh : h[a.2.2.1]? with
      | none => rw [hh] at hs; cases hs
      | some q =>
        rw [hh] at hs
        obtain ⟨q0, q1, q2, q3, q4⟩ := q
        simp only at hs
        by_cases c2 : q0 = 4 ∧ q1 = 1 ∧ q2 < 2147483648 ∧ zin S.1 b ((b.2.2.2.toNat : Nat) : Int) ((b.2.2.2.toNat : Nat) : Int) = true ∧ b.2.2.2.toNat < q2
        · rw [if_pos c2] at hs
          obtain ⟨rfl, rfl, c3, c4, c5⟩ := c2
          exact ⟨a, b, d, r, q2, q3, b.2.2.2.toNat, q4, rfl, c.1, c.2.1, c.2.2.1, c3, c4, c5, hh, (Option.some.inj hs).symm⟩
        · rw [if_neg c2] at hs
          cases hs
    · simp only [if_neg c] at hs
      cases hs
theorem zs_lald_ok (hs : zs_lald pc lc st h S = some L) : ∃ (a b d : zA) (r : List zA) (n rr j : Nat) (fs : List zA), st = b :: a :: r ∧ a.1 = 2 ∧ b.1 = 0 ∧ d.1 = 1 ∧ n < 2 ^ 31 ∧ zin S.1 b (j : Int) (j : Int) = true ∧ j < n ∧ h[a.2.2.1]? = some (4, 1, n, rr, fs) ∧ fs[j]? = some d ∧ L = [(pc + 1, lc, d :: r, h, S)] := by
  match st, hs with
  | [], hs => cases hs
  | [_], hs => cases hs
  | b :: a :: r, hs =>
    unfold zs_lald at hs
    by_cases c : a.1 = 2 ∧ b.1 = 0 ∧ b.2.1 = 0
    · simp only [if_pos c] at hs
      cases hh : h[a.2.2.1]? with
      | none => rw [hh] at hs; cases hs
      | some q =>
        rw [hh] at hs
        obtain ⟨q0, q1, q2, q3, q4⟩ := q
        simp only at hs
        by_cases c2 : q0 = 4 ∧ q1 = 1 ∧ q2 < 2147483648 ∧ zin S.1 b ((b.2.2.2.toNat : Nat) : Int) ((b.2.2.2.toNat : Nat) : Int) = true ∧ b.2.2.2.toNat < q2
        · rw [if_pos c2] at hs
          obtain ⟨rfl, rfl, c3, c4, c5⟩ := c2
          cases hd : q4[b.2.2.2.toNat]? with
          | none => rw [hd] at hs; cases hs
          | some d =>
            rw [hd] at hs
            simp only at hs
            by_cases c6 : d.1 = 1
            · rw [if_pos c6] at hs
              exact ⟨a, b, d, r, q2, q3, b.2.2.2.toNat, q4, rfl, c.1, c.2.1, c6, c3, c4, c5, hh, hd, (Option.some.inj hs).symm⟩
            · rw [if_neg c6] at hs
              cases hs
        · rw [if_neg c2] at hs
          cases hs
    · simp only [if_neg c] at hs
      cases hs
theorem zs_lcmp_ok (hs : zs_lcmp pc lc st h S = some L) : ∃ (a b : zA) (r : List zA), st = b :: a :: r ∧ a.1 = 1 ∧ b.1 = 1 ∧ a.2 = b.2 ∧ L = [(pc + 1, lc, (0, 0, 0, 0) :: r, h, S)] := by
  match st, hs with
  | [], hs => cases hs
  | [_], hs => cases hs
  | b :: a :: r, hs =>
    unfold zs_lcmp at hs
    by_cases c : a.1 = 1 ∧ b.1 = 1 ∧ a.2 = b.2
    · simp only [if_pos c] at hs
      exact ⟨a, b, r, rfl, c.1, c.2.1, c.2.2, (Option.some.inj hs).symm⟩
    · simp only [if_neg c] at hs
      cases hs
theorem zs_ialdA_ok (hs : zs_ialdA pc lc st h S = some L) : ∃ (a b : zA) (r : List zA) (n rr : Nat) (fs : List zA), st = b :: a :: r ∧ a.1 = 2 ∧ b.1 = 0 ∧ n < 2 ^ 31 ∧ zin S.1 b 0 ((n : Int) - 1) = true ∧ h[a.2.2.1]? = some (1, 0, n, rr, fs) ∧ L = [(pc + 1, lc, zvar S :: r, h, zpush S zfull)] := by
  match st, hs with
  | [], hs => cases hs
  | [_], hs => cases hs
  | b :: a :: r, hs =>
    unfold zs_ialdA at hs
    by_cases c : a.1 = 2 ∧ b.1 = 0
    · simp only [if_pos c] at hs
      cases hh : h[a.2.2.1]? with
      | none => rw [hh] at hs; cases hs
      | some q =>
        rw [hh] at hs
        obtain ⟨q0, q1, q2, q3, q4⟩ := q
        simp only at hs
        by_cases c2 : q0 = 1 ∧ q1 = 0 ∧ q2 < 2147483648 ∧ zin S.1 b 0 ((q2 : Int) - 1) = true
        · rw [if_pos c2] at hs
          obtain ⟨rfl, rfl, c3, c4⟩ := c2
          exact ⟨a, b, r, q2, q3, q4, rfl, c.1, c.2, c3, c4, hh, (Option.some.inj hs).symm⟩
        · rw [if_neg c2] at hs
          cases hs
    · simp only [if_neg c] at hs
      cases hs
theorem zs_if3_ok (hs : zs_if3 t pc lc st h S = some L) : ∃ a r, st = a :: r ∧ a.1 = 0 ∧ z32 S.1 a = true ∧ L = zbr 0 S a (0, 0, 0, 0) t lc r h ++ (zbr 2 S a (0, 0, 0, 0) (pc + 3) lc r h ++ zbr 4 S a (0, 0, 0, 0) (pc + 3) lc r h) := by
  cases st with
  | nil => cases hs
  | cons a r =>
    unfold zs_if3 at hs
    by_cases c : a.1 = 0 ∧ z32 S.1 a = true
    · simp only [if_pos c] at hs
      exact ⟨a, r, rfl, c.1, c.2, (Option.some.inj hs).symm⟩
    · simp only [if_neg c] at hs
      cases hs
theorem zs_xor_ok (hs : zs_xor pc lc st h S = some L) : ∃ a b r, st = b :: a :: r ∧ a.1 = 0 ∧ b.1 = 0 ∧ z32 S.1 a = true ∧ zin S.1 b 0 2147483647 = true ∧
    (∀ L' : List zI, zref 2 S.1 a (0, 0, 0, 0) = some L' → (pc + 1, lc, zvar (L', S.2.1, S.2.2) :: r, h, zpush (L', S.2.1, S.2.2) (-2147483648, -1)) ∈ L) ∧ ∀ L' : List zI, zref 3 S.1 a (0, 0, 0, 0) = some L' → (pc + 1, lc, zvar (L', S.2.1, S.2.2) :: r, h, zpush (L', S.2.1, S.2.2) (0, 2147483647)) ∈ L := by
  match st, hs with
  | [], hs => cases hs
  | [_], hs => cases hs
  | b :: a :: r, hs =>
    unfold zs_xor at hs
    by_cases c : a.1 = 0 ∧ b.1 = 0 ∧ z32 S.1 a = true ∧ zin S.1 b 0 2147483647 = true
    · simp only [if_pos c] at hs
      refine ⟨a, b, r, rfl, c.1, c.2.1, c.2.2.1, c.2.2.2, fun L' hr => ?_, fun L' hr => ?_⟩
      · rw [← Option.some.inj hs, hr]
        exact List.mem_append_left _ (List.mem_singleton.mpr rfl)
      · rw [← Option.some.inj hs, hr]
        exact List.mem_append_right _ (List.mem_singleton.mpr rfl)
    · simp only [if_neg c] at hs
      cases hs
theorem zs_tab_ok {lo : Int} {n : Nat} {ts : List Nat} (hs : zs_tab lo t n ts lc st h S = some L) : ∃ a r, st = a :: r ∧ a.1 = 0 ∧ z32 S.1 a = true ∧
    (∀ L' : List zI, zref 2 S.1 a (0, 0, 0, lo) = some L' → (t, lc, r, h, (L', S.2.1, S.2.2)) ∈ L) ∧ (∀ L' : List zI, zref 4 S.1 a (0, 0, 0, lo + (n : Int) - 1) = some L' → (t, lc, r, h, (L', S.2.1, S.2.2)) ∈ L) ∧
    ∀ (j t2 : Nat) (L' : List zI), j < n → ts[j]? = some t2 → zref 0 S.1 a (0, 0, 0, lo + (j : Int)) = some L' → (t2, lc, r, h, (L', S.2.1, S.2.2)) ∈ L := by
  cases st with
  | nil => cases hs
  | cons a r =>
    unfold zs_tab at hs
    by_cases c : a.1 = 0 ∧ z32 S.1 a = true
    · simp only [if_pos c] at hs
      refine ⟨a, r, rfl, c.1, c.2, fun L' hr => ?_, fun L' hr => ?_, fun j t2 L' hj ht hr => ?_⟩
      · rw [← Option.some.inj hs]
        exact List.mem_append_left _ (zsw_mem hr)
      · rw [← Option.some.inj hs]
        exact List.mem_append_right _ (List.mem_append_left _ (zsw_mem hr))
      · rw [← Option.some.inj hs]
        refine List.mem_append_right _ (List.mem_append_right _ (List.mem_flatMap.mpr ⟨j, List.mem_range.mpr hj, ?_⟩))
        rw [ht]
        exact zsw_mem hr
    · simp only [if_neg c] at hs
      cases hs
theorem zs_cpy_ok {fr lo : Nat} (hs : zs_cpy fr lo pc lc st h S = some L) : ∃ (n dp qd sp qs : zA) (r : List zA) (ld lr rr : Nat) (fd fs : List zA), st = n :: dp :: qd :: sp :: qs :: r ∧ (n.1 = 0 ∧ dp.1 = 0 ∧ qd.1 = 2 ∧ sp.1 = 0 ∧ qs.1 = 2 ∧ 1 ≤ fr ∧ zwords r + (nativeFrameWords "java/lang/System" "arraycopy" 5 + 11) ≤ lo ∧ zin S.1 dp 0 0 = true ∧ zin S.1 sp 0 0 = true) ∧
    h[qd.2.2.1]? = some (2, 0, ld, rr, fd) ∧ h[qs.2.2.1]? = some (2, 0, lr, rr, fs) ∧ ¬ rr = 1 ∧ ¬ rr = 2 ∧ ld < 2 ^ 31 ∧ lr < 2 ^ 31 ∧ zin S.1 n 0 (lr : Int) = true ∧ zin S.1 n 0 (ld : Int) = true ∧ L = [(pc + 3, lc, r, h, S)] := by
  match st, hs with
  | [], hs => cases hs
  | [_], hs => cases hs
  | [_, _], hs => cases hs
  | [_, _, _], hs => cases hs
  | [_, _, _, _], hs => cases hs
  | n :: dp :: qd :: sp :: qs :: r, hs =>
    unfold zs_cpy at hs
    by_cases c : n.1 = 0 ∧ dp.1 = 0 ∧ qd.1 = 2 ∧ sp.1 = 0 ∧ qs.1 = 2 ∧ 1 ≤ fr ∧ zwords r + (nativeFrameWords "java/lang/System" "arraycopy" 5 + 11) ≤ lo ∧ zin S.1 dp 0 0 = true ∧ zin S.1 sp 0 0 = true
    · simp only [if_pos c] at hs
      cases hh : h[qd.2.2.1]? with
      | none => rw [hh] at hs; cases hs
      | some q =>
        rw [hh] at hs
        cases hh2 : h[qs.2.2.1]? with
        | none => rw [hh2] at hs; cases hs
        | some q' =>
          rw [hh2] at hs
          obtain ⟨q0, q1, q2, q3, q4⟩ := q
          obtain ⟨p0, p1, p2, p3, p4⟩ := q'
          simp only at hs
          by_cases c2 : q0 = 2 ∧ p0 = 2 ∧ q1 = 0 ∧ p1 = 0 ∧ q3 = p3 ∧ ¬ q3 = 1 ∧ ¬ q3 = 2 ∧ q2 < 2147483648 ∧ p2 < 2147483648 ∧ zin S.1 n 0 (p2 : Int) = true ∧ zin S.1 n 0 (q2 : Int) = true
          · rw [if_pos c2] at hs
            obtain ⟨rfl, rfl, rfl, rfl, rfl, n1, n2, c3, c4, c5, c6⟩ := c2
            exact ⟨n, dp, qd, sp, qs, r, q2, p2, q3, q4, p4, rfl, c, hh, hh2, n1, n2, c3, c4, c5, c6, (Option.some.inj hs).symm⟩
          · rw [if_neg c2] at hs
            cases hs
    · simp only [if_neg c] at hs
      cases hs
theorem zs_1_ok {f : zA → List zA → Option (List zA)} (hs : zs_1 f len pc lc st h S = some L) : ∃ a r st', st = a :: r ∧ f a r = some st' ∧ L = [(pc + len, lc, st', h, S)] := by
  cases st with
  | nil => cases hs
  | cons a r =>
    unfold zs_1 at hs
    cases hf : f a r with
    | none => simp only [hf] at hs; cases hs
    | some st' =>
      simp only [hf] at hs
      exact ⟨a, r, st', rfl, hf, (Option.some.inj hs).symm⟩
end ZV
end
section
/-! ===== a step is right ===== -/
theorem zwords_ok (e : Nat → Int) (ad : Nat → Nat) (st : List zA) : ((zst e ad st).map fun v => v.category).sum = zwords st := by
  induction st with
  | nil => rfl
  | cons a r ih =>
    show (zval e ad a).category + ((zst e ad r).map fun v => v.category).sum = (if a.1 = 1 then 2 else 1) + zwords r
    rw [ih]
    by_cases h : a.1 = 1
    · rw [if_pos h, zval_1 h]
      rfl
    · rw [if_neg h, zval_c1 e ad h]
section ZO
variable {rul : Nat → List zI} {D : va_G} {cy : Nat → ClassId} {ad : Nat → Nat} {A : Nat → Prop} {e : Nat → Int} {lc : zL} {st : List zA} {h : List zC} {S : zS} {ws : va_W} {H : Heap} {locs : List Loc} {ls : Array Slot}
variable {p : Program} {l : Launch} {ev : Env} {R : Room} {s : State} {m : MethodId} {args : Array Value} {below : List Frame} {meth : Method} {c : Code} {cells slots : Nat} {Q : State → Prop} {pc i : Nat} {o : zO} {L : List zT}
set_option maxHeartbeats 4000000 in
theorem zsucc_ok {rc : Nat → List zI} (hrl : ∀ r, r < 100 → rc r = rul r) (hsc : i = 119 → zSc rul ad A s) (hx : p.tables.exec = Jvm.exec) (hb : c.code = zcode i) (hml : c.maxLocals = zmaxL i) (hown : s.vm.findClass (zy i).cls = some m.cls) (hts : ∀ w ∈ zTg, w.before args s = true) (hcl : zCl) (hK : va_K D vwCl (ztys cy) s)
    (hg : zgd i pc o = true) (hs : zsucc rc R.frames R.locals i pc o lc st h S = some L) (hi : zInv rul D cy ad A (zmaxL i) s.heap e lc st h S ws H locs ls)
    (kk : ∀ t ∈ L, zNx rul D cy ad A (zmaxL i) p l ev R s m args below meth c cells slots Q S.1.length e t.1 t.2.1 t.2.2.1 t.2.2.2.1 t.2.2.2.2) : W p l ev R s m args below meth c H locs cells slots Q (F0 m pc ls (zst e ad st)) := by
  unfold zsucc at hs
  unfold zgd at hg
  split at hs
  · rename_i hk
    simp only [hk] at hg
    obtain ⟨a, h1, h2, rfl⟩ := zs_ld_ok hs
    split at hg
    · rename_i h4
      exact zk_iload hx hb hi h1 h2 ⟨_, rfl, of_decide_eq_true hg⟩ (kk _ (List.mem_singleton.mpr rfl))
    · cases hg
  · rename_i hk
    simp only [hk] at hg
    obtain ⟨a, h1, h2, rfl⟩ := zs_ld_ok hs
    exact zk_iload2 hx hb hi h1 h2 (of_decide_eq_true hg) (kk _ (List.mem_singleton.mpr rfl))
  · rename_i hk
    simp only [hk] at hg
    obtain ⟨a, h1, h2, rfl⟩ := zs_ld_ok hs
    split at hg
    · exact zk_aload hx hb hi h1 h2 ⟨_, rfl, of_decide_eq_true hg⟩ (kk _ (List.mem_singleton.mpr rfl))
    · cases hg
  · rename_i hk
    simp only [hk] at hg
    obtain ⟨a, h1, h2, rfl⟩ := zs_ld_ok hs
    exact zk_aload2 hx hb hi h1 h2 (of_decide_eq_true hg) (kk _ (List.mem_singleton.mpr rfl))
  · rename_i hk
    simp only [hk] at hg
    obtain ⟨a, r, rfl, h2, rfl⟩ := zs_sto_ok hs
    split at hg
    · simp only [Bool.and_eq_true, decide_eq_true_eq] at hg
      exact zk_istore hx hb hi hg.2 h2 ⟨_, rfl, hg.1⟩ (kk _ (List.mem_singleton.mpr rfl))
    · cases hg
  · rename_i hk
    simp only [hk, Bool.and_eq_true, decide_eq_true_eq] at hg
    obtain ⟨a, r, rfl, h2, rfl⟩ := zs_sto_ok hs
    exact zk_istore2 hx hb hi hg.2 h2 hg.1 (kk _ (List.mem_singleton.mpr rfl))
  · rename_i hk
    simp only [hk] at hg
    obtain ⟨a, r, rfl, h2, rfl⟩ := zs_sto_ok hs
    split at hg
    · simp only [Bool.and_eq_true, decide_eq_true_eq] at hg
      exact zk_astore hx hb hi hg.2 h2 ⟨_, rfl, hg.1⟩ (kk _ (List.mem_singleton.mpr rfl))
    · cases hg
  · rename_i hk
    simp only [hk, Bool.and_eq_true, decide_eq_true_eq] at hg
    obtain ⟨a, r, rfl, h2, rfl⟩ := zs_sto_ok hs
    exact zk_astore2 hx hb hi hg.2 h2 hg.1 (kk _ (List.mem_singleton.mpr rfl))
  · rename_i hk
    simp only [hk, decide_eq_true_eq] at hg
    cases hs
    exact zk_iconst hx hb hi hg (kk _ (List.mem_singleton.mpr rfl))
  · rename_i hk
    simp only [hk, Bool.and_eq_true, decide_eq_true_eq] at hg
    cases hs
    exact zk_bipush hx hb hi hg.1 hg.2 (kk _ (List.mem_singleton.mpr rfl))
  · rename_i hk
    simp only [hk, Bool.and_eq_true, decide_eq_true_eq] at hg
    cases hs
    exact zk_sipush hx hb hi hg.1 hg.2 (kk _ (List.mem_singleton.mpr rfl))
  · rename_i hk
    simp only [hk, decide_eq_true_eq] at hg
    obtain ⟨a, b, r, rfl, h1, h2, rfl⟩ := zs_ar_ok hs
    exact zk_iadd hx hb hi h1 h2 hg (kk _ (List.mem_singleton.mpr rfl))
  · rename_i hk
    simp only [hk, decide_eq_true_eq] at hg
    obtain ⟨a, b, r, rfl, h1, h2, rfl⟩ := zs_ar_ok hs
    exact zk_isub hx hb hi h1 h2 hg (kk _ (List.mem_singleton.mpr rfl))
  · rename_i hk
    simp only [hk, decide_eq_true_eq] at hg
    obtain ⟨a, b, r, rfl, h1, h2, rfl⟩ := zs_ar_ok hs
    exact zk_imul hx hb hi h1 h2 hg (kk _ (List.mem_singleton.mpr rfl))
  · rename_i hk
    simp only [hk, decide_eq_true_eq] at hg
    obtain ⟨a, n, r, rfl, h1, h2, h3, h4, h5, h6⟩ := zs_rem_ok hs
    exact zk_irem2 hx hb hi h1 h2 h3 h4 hg (fun L' hr => kk _ (h5 L' hr)) (fun L' hr => kk _ (h6 L' hr))
  · rename_i hk
    simp only [hk, Bool.and_eq_true, decide_eq_true_eq] at hg
    obtain ⟨a, h1, h2, rfl⟩ := zs_inc_ok hs
    exact zk_iinc hx hb hi h1 h2 hg.2 hg.1 (kk _ (List.mem_singleton.mpr rfl))
  · rename_i hk
    simp only [hk, Bool.and_eq_true, decide_eq_true_eq] at hg
    cases hs
    exact zk_goto hx hb hi hg.2 hg.1 (kk _ (List.mem_singleton.mpr rfl))
  · rename_i hk
    simp only [hk, Bool.and_eq_true, decide_eq_true_eq] at hg
    obtain ⟨a, r, rfl, h1, h2, rfl⟩ := zs_if_ok hs
    exact zk_if _ hx hb hi h1 h2 hg.1 hg.2 (fun L' hr => kk _ (List.mem_append_left _ (zbr_mem hr))) (fun L' hr => kk _ (List.mem_append_right _ (zbr_mem hr)))
  · rename_i hk
    simp only [hk, Bool.and_eq_true, decide_eq_true_eq] at hg
    obtain ⟨a, b, r, rfl, h1, h2, h3, h4, rfl⟩ := zs_icmp_ok hs
    exact zk_icmp _ hx hb hi h1 h2 h3 h4 hg.1 hg.2 (fun L' hr => kk _ (List.mem_append_left _ (zbr_mem hr))) (fun L' hr => kk _ (List.mem_append_right _ (zbr_mem hr)))
  · rename_i hk
    simp only [hk] at hg
    obtain ⟨a, r, n, rr, fs, b, rfl, h1, h2, h3, rfl⟩ := zs_get_ok hs
    cases hr : vwCl[o.2.2.1]? with
    | none => rw [hr] at hg; cases hg
    | some q =>
      rw [hr] at hg
      simp only [Bool.and_eq_true, decide_eq_true_eq] at hg
      exact zk_get hx hb hts hcl hown hK hi h1 h2 hr hg.1.2 h3 (zwd_in hg.2) hg.1.1 (kk _ (List.mem_singleton.mpr rfl))
  · rename_i hk
    simp only [hk] at hg
    cases hr : vwCl[o.2.2.1]? with
    | none => rw [hr] at hg; cases hg
    | some q =>
      rw [hr] at hg hs
      simp only [Bool.and_eq_true, Bool.or_eq_true, decide_eq_true_eq] at hg
      obtain ⟨a, b, r, n, rr, fs, rfl, h1, h2, h3, h4, h5, rfl⟩ := zs_put_ok hs
      rcases hg.2 with h6 | h6
      · exact zk_put hx hb hts hcl hown hK hi h1 h2 h3 hr hg.1.1.1.2 h4 (zwd_in hg.1.1.2) hg.1.2 h6 (Or.inl rfl) hg.1.1.1.1 (kk _ (List.mem_singleton.mpr rfl))
      · refine zk_put hx hb hts hcl hown hK hi h1 h2 h3 hr hg.1.1.1.2 h4 (zwd_in hg.1.1.2) hg.1.2 h6 (Or.inr ⟨rfl, ?_⟩) hg.1.1.1.1 (kk _ (List.mem_singleton.mpr rfl))
        rcases h5 with h5 | h5
        · rw [decide_eq_false_iff_not] at h5
          exact absurd h6 h5
        · exact h5
  · rename_i hk
    simp only [hk, decide_eq_true_eq] at hg
    obtain ⟨a, b, r, rfl, h1, h2, h5⟩ := zs_iald_ok hs
    rcases h5 with ⟨rfl, h6⟩ | ⟨n, rr, fs, hrr, h3, h4, h5⟩
    · obtain ⟨g1, g2, g3, g4⟩ := zs_scr_ok h6
      exact zk_scr hx hb (hsc g1) hi g2 hg (fun v hv => kk _ (by rw [g3 v hv]; exact List.mem_singleton.mpr rfl)) (fun hv => kk _ (by rw [g4 hv]; exact List.mem_singleton.mpr rfl))
    · rw [hrl rr hrr] at h5
      rcases h5 with ⟨h5, rfl⟩ | ⟨h5, h6, h7⟩
      · exact zk_ialdR hx hb hK hi h1 h2 h5 h3 h4 hg (kk _ (List.mem_singleton.mpr rfl))
      · exact zk_ialdE hx hb hK hi h1 h2 h5 h3 h4 h6 hg (fun j L' d hj hr hd => kk _ (h7 j L' d hj hr hd))
  · rename_i hk
    simp only [hk, decide_eq_true_eq] at hg
    obtain ⟨a, b, d, r, n, rr, fs, rfl, h1, h2, h2d, hrr, h3, h4, h5⟩ := zs_iast_ok hs
    rw [hrl rr hrr] at h5
    rcases h5 with ⟨h5, h6, fs', h7, rfl⟩ | ⟨h5, h6⟩
    · exact zk_iastR hx hb hK hi h1 h2 h2d h5 h3 h4 h6 h7 hg (kk _ (List.mem_singleton.mpr rfl))
    · exact zk_iastE hx hb hK hi h1 h2 h2d h5 h3 h4 hg (fun j L' hj hr => kk _ (h6 j L' hj hr))
  · rename_i hk
    simp only [hk, decide_eq_true_eq] at hg
    obtain ⟨a, b, r, n, rr, t, fs, rfl, h1, h2, h3, h4, h5, h6, h7, h8⟩ := zs_aald_ok hs
    rcases h5 with rfl | rfl
    · exact zk_aald hx hb hK hi h1 h2 h6 rfl rfl h3 h4 h7 hg (fun j L' d hj hr hd => kk _ (h8 j L' d hj hr hd))
    · exact zk_aald hx hb hK hi h1 h2 h6 rfl rfl h3 h4 h7 hg (fun j L' d hj hr hd => kk _ (h8 j L' d hj hr hd))
  · rename_i hk
    simp only [hk, decide_eq_true_eq] at hg
    obtain ⟨a, b, d, r, n, rr, j, fs, rfl, h1, h2, h2d, h3, h4, h5, h6, rfl⟩ := zs_last_ok hs
    exact zk_last hx hb hK hi h1 h2 h2d h6 h3 h4 h5 hg (kk _ (List.mem_singleton.mpr rfl))
  · rename_i hk
    simp only [hk, decide_eq_true_eq] at hg
    obtain ⟨a, r, st', rfl, h1, rfl⟩ := zs_1_ok hs
    split at h1
    · rename_i h2
      cases h1
      exact zk_i2l hx hb hi h2.1 h2.2 hg (kk _ (List.mem_singleton.mpr rfl))
    · cases h1
  · rename_i hk
    simp only [hk] at hg
    cases hs
    split at hg
    · exact zk_lconst hx hb hi (of_decide_eq_true hg) (kk _ (List.mem_singleton.mpr rfl))
    · cases hg
  · rename_i hk
    simp only [hk, decide_eq_true_eq] at hg
    obtain ⟨a, r, st', rfl, h1, rfl⟩ := zs_1_ok hs
    split at h1
    · cases h1
    · rename_i h2
      cases h1
      exact zk_dup hx hb hi h2 hg (kk _ (List.mem_singleton.mpr rfl))
  · rename_i hk
    simp only [hk, decide_eq_true_eq] at hg
    obtain ⟨b, r, st', rfl, h1, rfl⟩ := zs_1_ok hs
    cases r with
    | nil => cases h1
    | cons a r2 =>
      simp only at h1
      split at h1
      · cases h1
      · rename_i h2
        cases h1
        exact zk_dup2 hx hb hi (fun q => h2 (Or.inl q)) (fun q => h2 (Or.inr q)) hg (kk _ (List.mem_singleton.mpr rfl))
  · rename_i hk
    simp only [hk, decide_eq_true_eq] at hg
    obtain ⟨a, r, st', rfl, h1, rfl⟩ := zs_1_ok hs
    split at h1
    · cases h1
    · rename_i h2
      cases h1
      exact zk_pop hx hb hi h2 hg (kk _ (List.mem_singleton.mpr rfl))
  · rename_i hk
    simp only [hk, Bool.and_eq_true, decide_eq_true_eq] at hg
    obtain ⟨a, r, rfl, h1, h2, h3, h4, h5⟩ := zs_tab_ok hs
    refine zk_tab (tgt := o.2.2.1) hx hb o.2.2.2.2.2 hi h1 h2 hg.1 rfl (show (pc : Int) + ((o.2.2.1 : Int) - (pc : Int)) = (o.2.2.1 : Int) by omega) (fun j hj => ?_) (fun L' hr => kk _ (h3 L' hr)) (fun L' hr => kk _ (h4 L' hr)) (fun j t L' hj ht hr => kk _ (h5 j t L' hj ht hr))
    have hj2 : j < o.2.2.2.2.2.length := by rw [hg.2]; exact hj
    refine ⟨(o.2.2.2.2.2[j] : Int) - (pc : Int), o.2.2.2.2.2[j], ?_, List.getElem?_eq_getElem hj2, by omega⟩
    rw [List.getElem?_toArray, List.getElem?_map, List.getElem?_eq_getElem hj2]
    rfl
  · rename_i hk
    simp only [hk, Bool.and_eq_true, decide_eq_true_eq] at hg
    obtain ⟨n, dp, qd, sp, qs, r, ld, lr, rr, fd, fs, rfl, ⟨h1, h2, h3, h4, h5, h6, h7, h8, h9⟩, g1, g2, n1, n2, g3, g4, g5, g6, rfl⟩ := zs_cpy_ok hs
    exact zk_copy hx hb hml hts hown hK (zwd_in hg.1.1.1.2) (zwd_in hg.1.1.2) (zwd_in hg.1.2) (zwd_in hg.2) hi h1 h2 h3 h4 h5 g1 g2 n1 n2 h8 h9 g5 g6 g4 g3 h6 (by rw [zwords_ok]; exact h7) hg.1.1.1.1 (kk _ (List.mem_singleton.mpr rfl))
  · rename_i hk
    simp only [hk, decide_eq_true_eq] at hg
    obtain ⟨a, b, d, r, n, rr, j, fs, rfl, h1, h2, h2d, h3, h4, h5, h6, h7, rfl⟩ := zs_lald_ok hs
    exact zk_lald hx hb hK hi h1 h2 h6 h3 h4 h5 h7 h2d hg (kk _ (List.mem_singleton.mpr rfl))
  · rename_i hk
    simp only [hk, decide_eq_true_eq] at hg
    obtain ⟨a, b, r, rfl, h1, h2, h3, rfl⟩ := zs_lcmp_ok hs
    exact zk_lcmp hx hb hi h1 h2 h3 hg (kk _ (List.mem_singleton.mpr rfl))
  · rename_i hk
    simp only [hk, decide_eq_true_eq] at hg
    obtain ⟨a, b, r, n, rr, fs, rfl, h1, h2, h3, h4, h5, rfl⟩ := zs_ialdA_ok hs
    exact zk_ialdA hx hb hK hi h1 h2 h5 h3 h4 hg (kk _ (List.mem_singleton.mpr rfl))
  · rename_i hk
    simp only [hk, Bool.and_eq_true, decide_eq_true_eq] at hg
    obtain ⟨a, r, rfl, h1, h2, rfl⟩ := zs_if3_ok hs
    exact zk_if3 hx hb hi h1 h2 hg.1 hg.2 (fun L' hr => kk _ (List.mem_append_left _ (zbr_mem hr))) (fun L' hr => kk _ (List.mem_append_right _ (List.mem_append_left _ (zbr_mem hr)))) (fun L' hr => kk _ (List.mem_append_right _ (List.mem_append_right _ (zbr_mem hr))))
  · rename_i hk
    simp only [hk, decide_eq_true_eq] at hg
    obtain ⟨a, b, r, rfl, h1, h2, h3, h4, h5, h6⟩ := zs_xor_ok hs
    exact zk_ixor hx hb hi h1 h2 h3 h4 hg (fun L' hr => kk _ (h5 L' hr)) (fun L' hr => kk _ (h6 L' hr))
  · rename_i hk
    simp only [hk, decide_eq_true_eq] at hg
    obtain ⟨r, rfl, h1, rfl⟩ := zs_alen_ok hs
    exact zk_alen hx hb (hsc h1) hi hg (kk _ (List.mem_singleton.mpr rfl))
  · rename_i hk
    simp only [hk, decide_eq_true_eq] at hg
    obtain ⟨a, r, rfl, h1, rfl⟩ := zs_and_ok hs
    exact zk_iand hx hb hi h1 hg (kk _ (List.mem_singleton.mpr rfl))
  · rename_i hk
    simp only [hk] at hg
    obtain ⟨me, sz, ds, sr, len0, rr0, fs, fd, fr, rfl, a1, a2, a3, a4, a5, a6, a7, a8, a9, b1, b2, b3, b4, b5, b6, b7, rfl⟩ := zs_loop_ok hs
    cases hr : vwCl[4]? with
    | none => rw [hr] at hg; cases hg
    | some r =>
      rw [hr] at hg
      obtain ⟨C, T, N⟩ := r
      simp only [Bool.and_eq_true, decide_eq_true_eq] at hg
      obtain ⟨⟨hd0, ⟨⟨⟨⟨⟨⟨⟨⟨⟨⟨⟨⟨d1, d3⟩, d4⟩, d7⟩, d8⟩, d11⟩, d12⟩, d16⟩, d17⟩, d21⟩, d22⟩, d23⟩, d26⟩⟩, ⟨⟨⟨⟨⟨⟨⟨w1, w2⟩, w3⟩, w4⟩, w5⟩, w6⟩, w7⟩, w8⟩⟩ := hg
      split at hd0
      · simp only [Bool.and_eq_true, decide_eq_true_eq] at hd0
        exact zk_loop hx hb hts hcl hown hK hr w1 w2 w3 (zwd_in w4) (zwd_in w5) (zwd_in w6) rfl w7 w8 hi a1 a2 a3 a4 a5 a6 a7 a8 a9 b1 b2 b3 b4 b5 b6 b7 hd0.1.1 d1 d3 d4 d7 d8 d11 d12 hd0.1.2 d16 d17 hd0.2 d21 d22 d23 d26 (kk _ (List.mem_singleton.mpr rfl))
      · cases hd0
  · cases hs
end ZO
end
section
/-! ===== a picture seen as an instance of a pattern ===== -/
def zsb (th : Nat → zA) (a : zA) : zA := if a.2.1 = 0 then a else (a.1, a.2.1 * (th a.2.2.1).2.1, (th a.2.2.1).2.2.1, a.2.1 * (th a.2.2.1).2.2.2 + a.2.2.2)
def zsbC (th : Nat → zA) (c : zC) : zC := (c.1, c.2.1, c.2.2.1, c.2.2.2.1, c.2.2.2.2.map (zsb th))
def zec (th : Nat → zA) (e : Nat → Int) : Nat → Int := fun v => zv e (th v)
theorem zsb_v (th : Nat → zA) (e : Nat → Int) (a : zA) : zv e (zsb th a) = zv (zec th e) a := by
  unfold zsb
  by_cases h : a.2.1 = 0
  · rw [if_pos h]
    unfold zv
    rw [h]
    simp
  · rw [if_neg h]
    unfold zec zv
    simp only
    rw [Int.mul_add, Int.mul_assoc, Int.add_assoc]
theorem zsb_val (th : Nat → zA) (e : Nat → Int) (ad : Nat → Nat) {a : zA} (ht : a.1 = 0 ∨ a.1 = 1 ∨ a.2.1 = 0) : zval e ad (zsb th a) = zval (zec th e) ad a := by
  have h1 : (zsb th a).1 = a.1 := by
    unfold zsb
    by_cases h : a.2.1 = 0
    · rw [if_pos h]
    · rw [if_neg h]
  have h2 := zsb_v th e a
  rcases ht with ht | ht | ht
  · rw [zval_0 (h1.trans ht), zval_0 ht, h2]
  · rw [zval_1 (h1.trans ht), zval_1 ht, h2]
  · have h3 : zsb th a = a := by unfold zsb; rw [if_pos ht]
    rw [h3] at h2 ⊢
    unfold zval
    rw [h2]
/-- the pattern's numbers are plain, and within its own -/
def zpl (n : Nat) (a : zA) : Bool := (decide (a.1 = 0) || decide (a.1 = 1) || decide (a.2.1 = 0)) && (decide (a.2.1 = 0) || decide (a.2.2.1 < n))
theorem zpl_t {n : Nat} {a : zA} (h : zpl n a = true) : a.1 = 0 ∨ a.1 = 1 ∨ a.2.1 = 0 := by
  unfold zpl at h
  simp only [Bool.and_eq_true, Bool.or_eq_true, decide_eq_true_eq] at h
  rcases h.1 with (h1 | h1) | h1
  · exact Or.inl h1
  · exact Or.inr (Or.inl h1)
  · exact Or.inr (Or.inr h1)
theorem zpl_w {n : Nat} {a : zA} (h : zpl n a = true) : zwf n a := by
  unfold zpl at h
  simp only [Bool.and_eq_true, Bool.or_eq_true, decide_eq_true_eq] at h
  exact h.2
def zceq (c d : zC) : Bool := decide (c.1 = d.1) && decide (c.2.1 = d.2.1) && decide (c.2.2.1 = d.2.2.1) && decide (c.2.2.2.1 = d.2.2.2.1) && decide (c.2.2.2.2 = d.2.2.2.2)
theorem zceq_ok {c d : zC} (h : zceq c d = true) : c = d := by
  obtain ⟨c0, c1, c2, c3, c4⟩ := c
  obtain ⟨d0, d1, d2, d3, d4⟩ := d
  unfold zceq at h
  simp only [Bool.and_eq_true, decide_eq_true_eq] at h
  obtain ⟨⟨⟨⟨rfl, rfl⟩, rfl⟩, rfl⟩, rfl⟩ := h
  rfl
def zheq : List zC → List zC → Bool
  | [], [] => true
  | c :: l, d :: r => zceq c d && zheq l r
  | _, _ => false
theorem zheq_ok : ∀ {l r : List zC}, zheq l r = true → l = r
  | [], [], _ => rfl
  | [], _ :: _, h => by cases h
  | _ :: _, [], h => by cases h
  | c :: l, d :: r, h => by
    unfold zheq at h
    simp only [Bool.and_eq_true] at h
    rw [zceq_ok h.1, zheq_ok h.2]
/-- the pattern's cell says no more -/
def zcle (S : zS) (c d : zC) : Bool := zceq c d || (decide (c.1 = d.1 ∧ c.2.1 = d.2.1 ∧ c.2.2.1 = d.2.2.1 ∧ c.2.2.2.1 = d.2.2.2.1) && ((decide (c.1 = 2) && zxle S c.2.2.2.1 c.2.2.2.2 d.2.2.2.2) || decide (c.1 = 5 ∧ c.2.2.2.2 = [])))
theorem zcle_ok {rul : Nat → List zI} {cy : Nat → ClassId} {e : Nat → Int} {ad : Nat → Nat} {S : zS} {c d : zC} {E : va_E} (hs : zS1 e S.1) (h : zcle S c d = true) (hd : zCR rul cy e ad d E) : zCR rul cy e ad c E := by
  unfold zcle at h
  simp only [Bool.or_eq_true, Bool.and_eq_true, decide_eq_true_eq] at h
  rcases h with h | ⟨⟨h1, h2, h3, h4⟩, h⟩
  · rw [zceq_ok h]; exact hd
  · obtain ⟨c0, c1, c2, c3, fc⟩ := c
    obtain ⟨d0, d1, d2, d3, fd⟩ := d
    have h1 : c0 = d0 := h1
    have h2 : c1 = d1 := h2
    have h3 : c2 = d2 := h3
    have h4 : c3 = d3 := h4
    subst h1; subst h2; subst h3; subst h4
    rcases h with ⟨h5, h6⟩ | ⟨h5, h6⟩
    · have h5 : c0 = 2 := h5
      subst h5
      obtain ⟨f, q1, q2, q3⟩ := hd
      exact ⟨f, q1, q2, zxle_ok hs h6 q3⟩
    · have h5 : c0 = 5 := h5
      have h6 : fc = [] := h6
      subst h5; subst h6
      obtain ⟨n, f, q1, q2, q3⟩ := hd
      exact ⟨n, f, q1, q2, True.intro⟩
def zhle (S : zS) : List zC → List zC → Bool
  | [], [] => true
  | c :: l, d :: r => zcle S c d && zhle S l r
  | _, _ => false
theorem zhle_len {S : zS} : ∀ {l r : List zC}, zhle S l r = true → l.length = r.length
  | [], [], _ => rfl
  | [], _ :: _, h => by cases h
  | _ :: _, [], h => by cases h
  | c :: l, d :: r, h => by
    unfold zhle at h
    simp only [Bool.and_eq_true] at h
    rw [List.length_cons, List.length_cons, zhle_len h.2]
theorem zhle_at {S : zS} : ∀ {l r : List zC} {i : Nat} {c : zC}, zhle S l r = true → l[i]? = some c → ∃ d, r[i]? = some d ∧ zcle S c d = true
  | [], _, _, _, _, hc => by simp at hc
  | _ :: _, [], _, _, h, _ => by cases h
  | c0 :: l, d :: r, 0, c, h, hc => by
    unfold zhle at h
    simp only [Bool.and_eq_true] at h
    have hc : c0 = c := by simpa using hc
    exact ⟨d, rfl, hc ▸ h.1⟩
  | c0 :: l, d :: r, i + 1, c, h, hc => by
    unfold zhle at h
    simp only [Bool.and_eq_true] at h
    have hc : l[i]? = some c := by simpa using hc
    obtain ⟨d9, h1, h2⟩ := zhle_at h.2 hc
    exact ⟨d9, by simpa using h1, h2⟩
theorem zmap_sb (th : Nat → zA) (e : Nat → Int) (fs : List zA) : (fs.map (zsb th)).map (zv e) = fs.map (zv (zec th e)) := by
  rw [List.map_map]
  exact List.map_congr_left fun a _ => zsb_v th e a
def zmt (th : Nat → zA) (S : zS) (lc : zL) (st : List zA) (h : List zC) (lcT : zL) (stT : List zA) (hT : List zC) (I : List zI) : Bool :=
  (List.range I.length).all (fun v => match I[v]? with
    | some i => zin S.1 (th v) i.1 i.2
    | none => false) &&
  decide (stT.map (zsb th) = st) && zhle S (hT.map (zsbC th)) h && lcT.all (fun q => decide (zget lc q.1 = some (zsb th q.2))) &&
  stT.all (zpl I.length) && lcT.all (fun q => zpl I.length q.2) && hT.all (fun c => c.2.2.2.2.all (zpl I.length)) && hT.all (fun c => decide (¬ c.1 = 3) || c.2.2.2.2.all (fun a => decide (a.2.1 = 0)))
theorem zmt_ok {rul : Nat → List zI} {D : va_G} {cy : Nat → ClassId} {ad : Nat → Nat} {A : Nat → Prop} {nL : Nat} {H0 : Heap} {e : Nat → Int} {lc lcT : zL} {st stT : List zA} {h hT : List zC} {S : zS} {I : List zI} {ws : va_W} {H : Heap} {locs : List Loc} {ls : Array Slot} {th : Nat → zA}
    (hm : zmt th S lc st h lcT stT hT I = true) (hi : zInv rul D cy ad A nL H0 e lc st h S ws H locs ls) : zInv rul D cy ad A nL H0 (zec th e) lcT stT hT (I, [], []) ws H locs ls ∧ zst (zec th e) ad stT = zst e ad st := by
  unfold zmt at hm
  simp only [Bool.and_eq_true, decide_eq_true_eq] at hm
  obtain ⟨⟨⟨⟨⟨⟨⟨m1, m2⟩, m3⟩, m4⟩, m5⟩, m6⟩, m7⟩, m8⟩ := hm
  obtain ⟨h1, h2, h3, h4, h5, h6, h7, h8, h9⟩ := hi
  have hS1 : zS1 (zec th e) I := fun v i hv => by
    have hlt := (List.getElem?_eq_some_iff.mp hv).1
    have := List.all_eq_true.mp m1 v (List.mem_range.mpr hlt)
    rw [hv] at this
    exact zin_ok h1.1 this
  have hst : zst (zec th e) ad stT = zst e ad st := by
    rw [← m2]
    unfold zst
    rw [List.map_map]
    exact List.map_congr_left fun a ha => (zsb_val th e ad (zpl_t (List.all_eq_true.mp m5 a ha))).symm
  refine ⟨⟨⟨hS1, fun q hq => (nomatch hq), fun q hq => (nomatch hq)⟩, fun q hq => zpl_w (List.all_eq_true.mp m6 q hq), fun a ha => zpl_w (List.all_eq_true.mp m5 a ha), fun c hc a ha => zpl_w (List.all_eq_true.mp (List.all_eq_true.mp m7 c hc) a ha), ⟨?_, fun i c hc => ?_⟩, h6, h7, h8, ⟨h9.1, h9.2.1, fun q hq => ?_⟩⟩, hst⟩
  · rw [h5.1, ← zhle_len m3, List.length_map]
  · obtain ⟨d9, hc2, hle⟩ := zhle_at m3 (show (hT.map (zsbC th))[i]? = some (zsbC th c) by rw [List.getElem?_map, hc]; rfl)
    obtain ⟨E, q1, q2⟩ := h5.2 i _ hc2
    have q2 := zcle_ok h1.1 hle q2
    refine ⟨E, q1, ?_⟩
    have hpl := List.all_eq_true.mp (List.all_eq_true.mp m7 c (List.mem_of_getElem? hc))
    obtain ⟨t, ci, len, rr, fs⟩ := c
    have hpl : ∀ a ∈ fs, zpl I.length a = true := hpl
    have hget : ∀ (j : Nat) (a : zA), fs[j]? = some a → (fs.map (zsb th))[j]? = some (zsb th a) := fun j a ha => by rw [List.getElem?_map, ha]; rfl
    match t, q2 with
    | 0, q2 =>
      have q2 : E = .inr (ci, zst e ad (fs.map (zsb th))) := q2
      show E = .inr (ci, zst (zec th e) ad fs)
      rw [q2]
      congr 2
      unfold zst
      rw [List.map_map]
      exact List.map_congr_left fun a ha => zsb_val th e ad (zpl_t (hpl a ha))
    | 1, ⟨f, q3, q4, q5⟩ => exact ⟨f, q3, by have q4 : (fs.map (zsb th)).length = len := q4; rwa [List.length_map] at q4, fun j a ha => by rw [q5 j _ (hget j a ha), zsb_v]⟩
    | 2, ⟨f, q3, q4, q5⟩ => exact ⟨f, q3, q4, by show zX rr f (fs.map (zv (zec th e))); rw [← zmap_sb]; exact q5⟩
    | 5, ⟨n, f, q3, q4, q5⟩ => exact ⟨n, f, q3, q4, by show zY n f (fs.map (zv (zec th e))); rw [← zmap_sb]; exact q5⟩
    | 3, ⟨f, q3, q4, q5⟩ => exact ⟨f, q3, by have q4 : (fs.map (zsb th)).length = len := q4; rwa [List.length_map] at q4, fun j a ha => by
        rw [q5 j _ (hget j a ha)]
        have h12 := List.all_eq_true.mp m8 _ (List.mem_of_getElem? hc)
        simp only [not_true, decide_false, Bool.false_or] at h12
        have h13 := of_decide_eq_true (List.all_eq_true.mp h12 a (List.mem_of_getElem? ha))
        rw [show zsb th a = a from by unfold zsb; rw [if_pos h13]]⟩
    | 4, ⟨f, q3, q4, q5⟩ => exact ⟨f, q3, by have q4 : (fs.map (zsb th)).length = len := q4; rwa [List.length_map] at q4, fun j a ha => by rw [q5 j _ (hget j a ha), zsb_v]⟩
    | t + 6, ⟨f, q3, q4, q5⟩ => exact ⟨f, q3, by have q4 : (fs.map (zsb th)).length = len := q4; rwa [List.length_map] at q4, fun j a ha => by rw [q5 j _ (hget j a ha), zsb_v]⟩
  · obtain ⟨⟨j, a⟩, hm2, rfl⟩ := List.mem_map.mp hq
    have h10 := of_decide_eq_true (List.all_eq_true.mp m4 _ hm2)
    have h11 := zls_get h9 h10
    rw [zsb_val th e ad (zpl_t (List.all_eq_true.mp m6 _ hm2))] at h11
    exact h11
end
section
/-! ===== measures ===== -/
def zlc (e : Nat → Int) : List (Nat × Int) → Int
  | [] => 0
  | q :: l => q.2 * e q.1 + zlc e l
def zins (v : Nat) (k : Int) : List (Nat × Int) → List (Nat × Int)
  | [] => [(v, k)]
  | q :: l => if q.1 = v then (v, q.2 + k) :: l else q :: zins v k l
theorem zlc_ins (e : Nat → Int) (v : Nat) (k : Int) : ∀ l : List (Nat × Int), zlc e (zins v k l) = zlc e l + k * e v
  | [] => by simp [zins, zlc]
  | q :: l => by
    unfold zins
    by_cases h : q.1 = v
    · rw [if_pos h]
      show (q.2 + k) * e v + zlc e l = q.2 * e q.1 + zlc e l + k * e v
      rw [h, Int.add_mul]
      omega
    · rw [if_neg h]
      show q.2 * e q.1 + zlc e (zins v k l) = q.2 * e q.1 + zlc e l + k * e v
      rw [zlc_ins e v k l]
      omega
def zubd (L : List zI) : List (Nat × Int) → Option Int
  | [] => some 0
  | q :: l => match zubd L l with
    | none => none
    | some r => if q.2 = 0 then some r else match L[q.1]? with
      | none => none
      | some i => if 0 < q.2 then some (q.2 * i.2 + r) else some (q.2 * i.1 + r)
theorem zubd_ok {e : Nat → Int} {L : List zI} (h : zS1 e L) : ∀ {l : List (Nat × Int)} {u : Int}, zubd L l = some u → zlc e l ≤ u
  | [], u, hu => by cases hu; exact Int.le_refl _
  | q :: l, u, hu => by
    unfold zubd at hu
    cases hr : zubd L l with
    | none => rw [hr] at hu; cases hu
    | some r =>
      rw [hr] at hu
      have ih := zubd_ok h hr
      show q.2 * e q.1 + zlc e l ≤ u
      by_cases h0 : q.2 = 0
      · simp only [if_pos h0] at hu
        cases hu
        rw [h0]
        omega
      · simp only [if_neg h0] at hu
        cases hi : L[q.1]? with
        | none => rw [hi] at hu; cases hu
        | some i =>
          rw [hi] at hu
          obtain ⟨b1, b2⟩ := h _ _ hi
          by_cases hp : 0 < q.2
          · simp only [if_pos hp] at hu
            cases hu
            have := Int.mul_le_mul_of_nonneg_left b2 (Int.le_of_lt hp)
            omega
          · simp only [if_neg hp] at hu
            cases hu
            have := Int.mul_le_mul_of_nonpos_left (a := q.2) (by omega) b1
            omega
/-- a measure: a sum of numbers, and a constant -/
abbrev zM : Type := List (Int × zA) × Int
def zmu (e : Nat → Int) : List (Int × zA) → Int
  | [] => 0
  | q :: l => q.1 * zv e q.2 + zmu e l
/-- s * its variables -/
def zmv (s : Int) : List (Int × zA) → List (Nat × Int) → List (Nat × Int)
  | [], l => l
  | q :: r, l => zins q.2.2.2.1 (s * q.1 * q.2.2.1) (zmv s r l)
def zmc0 (s : Int) : List (Int × zA) → Int
  | [] => 0
  | q :: r => s * q.1 * q.2.2.2.2 + zmc0 s r
theorem zmv_ok (e : Nat → Int) (s : Int) : ∀ (T : List (Int × zA)) (l : List (Nat × Int)), zlc e (zmv s T l) + zmc0 s T = zlc e l + s * zmu e T
  | [], l => by simp [zmv, zmc0, zmu]
  | q :: r, l => by
    unfold zmv zmc0 zmu
    rw [zlc_ins]
    have ih := zmv_ok e s r l
    unfold zv
    rw [Int.mul_add s, ← Int.mul_assoc, Int.mul_add (s * q.1), ← Int.mul_assoc]
    omega
/-- the measure m (its numbers by th) is below m0 -/
def zless (L : List zI) (th : Nat → zA) (m m0 : zM) : Bool := match zubd L (zmv 1 (m.1.map fun q => (q.1, zsb th q.2)) (zmv (-1) m0.1 [])) with
  | some u => decide (u + zmc0 1 (m.1.map fun q => (q.1, zsb th q.2)) + zmc0 (-1) m0.1 + m.2 < m0.2)
  | none => false
theorem zmu_sb (th : Nat → zA) (e : Nat → Int) : ∀ T : List (Int × zA), zmu e (T.map fun q => (q.1, zsb th q.2)) = zmu (zec th e) T
  | [] => rfl
  | q :: r => by
    show q.1 * zv e (zsb th q.2) + zmu e (r.map fun q => (q.1, zsb th q.2)) = q.1 * zv (zec th e) q.2 + zmu (zec th e) r
    rw [zsb_v, zmu_sb th e r]
theorem zless_ok {e : Nat → Int} {L : List zI} {th : Nat → zA} {m m0 : zM} (h : zS1 e L) (hl : zless L th m m0 = true) : zmu (zec th e) m.1 + m.2 < zmu e m0.1 + m0.2 := by
  unfold zless at hl
  cases hu : zubd L (zmv 1 (m.1.map fun q => (q.1, zsb th q.2)) (zmv (-1) m0.1 [])) with
  | none => rw [hu] at hl; cases hl
  | some u =>
    rw [hu] at hl
    have h1 := zubd_ok h hu
    have h2 := of_decide_eq_true hl
    have h3 := zmv_ok e 1 (m.1.map fun q => (q.1, zsb th q.2)) (zmv (-1) m0.1 [])
    have h4 := zmv_ok e (-1) m0.1 []
    have h5 : zlc e ([] : List (Nat × Int)) = 0 := rfl
    rw [zmu_sb] at h3
    rw [Int.one_mul] at h3
    have h6 : (-1 : Int) * zmu e m0.1 = - zmu e m0.1 := by omega
    rw [h6] at h4
    omega
/-- never below 0 -/
def znn (I : List zI) (m : zM) : Bool := match zubd I (zmv (-1) m.1 []) with
  | some u => decide (u + zmc0 (-1) m.1 ≤ m.2)
  | none => false
theorem znn_ok {e : Nat → Int} {I : List zI} {m : zM} (h : zS1 e I) (hn : znn I m = true) : 0 ≤ zmu e m.1 + m.2 := by
  unfold znn at hn
  cases hu : zubd I (zmv (-1) m.1 []) with
  | none => rw [hu] at hn; cases hn
  | some u =>
    rw [hu] at hn
    have h1 := zubd_ok h hu
    have h2 := of_decide_eq_true hn
    have h4 := zmv_ok e (-1) m.1 []
    have h5 : zlc e ([] : List (Nat × Int)) = 0 := rfl
    have h6 : (-1 : Int) * zmu e m.1 = - zmu e m.1 := by omega
    rw [h6] at h4
    omega
/-! ===== how a pattern's numbers are found ===== -/
def zfv (v : Nat) : List (zA × zA) → Option zA
  | [] => none
  | q :: l => if q.1.2.1 = 1 ∧ q.1.2.2.1 = v ∧ q.1.2.2.2 = 0 then some (0, q.2.2) else zfv v l
def zprs (lcT lc : zL) (stT st : List zA) (hT h : List zC) : List (zA × zA) := (lcT.filterMap fun q => (zget lc q.1).map fun a => (q.2, a)) ++ (stT.zip st ++ (hT.zip h).flatMap fun q => q.1.2.2.2.2.zip q.2.2.2.2.2)
def zthl (I : List zI) (ps : List (zA × zA)) : List zA := (List.range I.length).map fun v => match zfv v ps with
  | some a => a
  | none => (0, 0, 0, (I.getD v (0, 0)).1)
def ztf (T : List zA) : Nat → zA := fun v => T.getD v (0, 0, 0, 0)
/-! ===== facts across a head: what follows from a fact, and bounds out of facts ===== -/
def zimp (f q : zA × zA) : Bool := decide (f.1.2.1 = q.1.2.1 ∧ f.1.2.2.1 = q.1.2.2.1 ∧ f.2.2.1 = q.2.2.1 ∧ f.2.2.2.1 = q.2.2.2.1 ∧ q.2.2.2.2 - f.2.2.2.2 ≤ q.1.2.2.2 - f.1.2.2.2)
theorem zimp_ok {e : Nat → Int} {f q : zA × zA} (h : zimp f q = true) (hf : zv e f.2 ≤ zv e f.1) : zv e q.2 ≤ zv e q.1 := by
  obtain ⟨h1, h2, h3, h4, h5⟩ := of_decide_eq_true h
  unfold zv at hf ⊢
  rw [← h1, ← h2, ← h3, ← h4]
  omega
def zfcs (th : Nat → zA) (S : zS) (F : List (zA × zA)) : Bool := F.all (fun q => S.2.1.any (fun f => zimp f (zsb th q.1, zsb th q.2)))
theorem zfcs_ok {rul : Nat → List zI} {e : Nat → Int} {th : Nat → zA} {S : zS} {F : List (zA × zA)} (hs : zSat rul e S) (h : zfcs th S F = true) : ∀ q ∈ F, zv (zec th e) q.2 ≤ zv (zec th e) q.1 := by
  intro q hq
  obtain ⟨f, hf, hi⟩ := List.any_eq_true.mp (List.all_eq_true.mp h q hq)
  have := zimp_ok hi (hs.2.1 f hf).2.2
  rw [← zsb_v, ← zsb_v]
  exact this
def zprl (L : List zI) : List (zA × zA) → List zI
  | [] => L
  | f :: l => zprl (match zr2 L f.2 f.1 0 with
    | some L' => L'
    | none => L) l
def zprop (S : zS) : zS := (zprl S.1 S.2.1, S.2.1, S.2.2)
theorem zprl_ok {e : Nat → Int} : ∀ {F : List (zA × zA)} {L : List zI}, zS1 e L → (∀ q ∈ F, zv e q.2 ≤ zv e q.1) → zS1 e (zprl L F) ∧ (zprl L F).length = L.length
  | [], L, h, _ => ⟨h, rfl⟩
  | f :: l, L, h, hF => by
    obtain ⟨L', e1, h1, l1⟩ := zr2_ok (a := f.2) (b := f.1) (d := 0) h (by have := hF f List.mem_cons_self; omega)
    unfold zprl
    rw [e1]
    obtain ⟨h2, l2⟩ := zprl_ok (F := l) (L := L') h1 (fun q hq => hF q (List.mem_cons_of_mem _ hq))
    exact ⟨h2, l2.trans l1⟩
theorem zprop_ok {rul : Nat → List zI} {D : va_G} {cy : Nat → ClassId} {ad : Nat → Nat} {A : Nat → Prop} {nL : Nat} {s : State} {e : Nat → Int} {lc : zL} {st : List zA} {h : List zC} {S : zS} {ws : va_W} {H : Heap} {locs : List Loc} {ls : Array Slot} (hi : zInv rul D cy ad A nL s.heap e lc st h S ws H locs ls) : zInv rul D cy ad A nL s.heap e lc st h (zprop S) ws H locs ls := by
  obtain ⟨h1, l1⟩ := zprl_ok hi.1.1 (fun q hq => (hi.1.2.1 q hq).2.2)
  exact zI_S hi (zSat_ref hi.1 h1 l1) l1
end
section
/-! ===== what a method may count on beside its world: texts, statics, words that aren't good ===== -/
def zen (x : Nat) : String := match x with
  | 0 => "java/lang/IllegalArgumentException"
  | 1 => "java/lang/IllegalStateException"
  | _ => "java/lang/UnsupportedOperationException"
def znames : List String := ["java/lang/RuntimeException", "java/lang/Exception"]
def zFx (w : Cond) : Bool := match w with
  | .castable .. => true
  | .declares .. => true
  | _ => false
def zTx : List Cond := lw_tbl.filter zFx
def zncs : List (String × String) := [(zen 2, zen 0), (zen 1, zen 0)]
def zF (sa : Nat → Nat) (A : Nat → Prop) (U : State) : Prop := (∀ x, x < 3 → vk_R RX3 (zsi x) (ztx x) (sa x) U) ∧ vx_Zq Bundle.tN "UNASSIGNED_STACK" Bundle.steD A U U.heap ∧ vx_Zq Bundle.tN "SUPPRESSED_SENTINEL" Bundle.listD A U U.heap ∧ (∀ w ∈ zTx, va_Nw w U) ∧ ∀ q ∈ zncs, va_Nc q.1 q.2 U
theorem zNw_warm {w : Cond} {s U : State} (h : zFx w = true) (hW : s.WarmedH U.vm) (hz : va_Nw w s) : va_Nw w U := by
  cases w <;> first | (exact va_Nw.warmC hW hz) | (exact va_Nw.warmD hW hz) | (simp [zFx] at h)
theorem zF_go {sa : Nat → Nat} {A : Nat → Prop} {s U : State} {H : Heap} {locs : List Loc} (h : zF sa A s) (hS : va_S A s.heap H locs) (hU : U.heap = H) (hW : s.WarmedH U.vm) : zF sa A U := by
  obtain ⟨h1, h2, h3, h4, h5⟩ := h
  refine ⟨fun x hx => vk_R.warm hW (h1 x hx), ?_, ?_, fun w hw => zNw_warm (List.mem_filter.mp hw).2 hW (h4 w hw), fun q hq => va_Nc.moved hW.alike (h5 q hq)⟩
  · rw [hU]; exact vx_Zq.moved hW.alike (h2.kept hS.2.1)
  · rw [hU]; exact vx_Zq.moved hW.alike (h3.kept hS.2.1)
theorem zF_bl {sa : Nat → Nat} {A : Nat → Prop} {U : State} (h : zF sa A U) (g : JFrame) (mk : MethodId) (a : Array Value) : zF sa A (U.calling g mk a) := by
  obtain ⟨h1, h2, h3, h4, h5⟩ := h
  refine ⟨fun x hx => vk_R.same (u := U) rfl (h1 x hx), vx_Zq.moved (u := U) (Vm.Alike.refl U.vm) h2, vx_Zq.moved (u := U) (Vm.Alike.refl U.vm) h3, fun w hw => ?_, fun q hq => va_Nc.moved (u := U) (Vm.Alike.refl U.vm) (h5 q hq)⟩
  have hz := (List.mem_filter.mp hw).2
  exact va_Nw.same (u := U) (by cases w <;> first | rfl | (simp [zFx] at hz)) rfl (h4 w hw)
/-- the listing is right at a throw -/
def zgt (i pc : Nat) (o : zO) : Bool := decide (decode (zcode i) pc = .ok (.new o.2.1.toNat, 3)) && decide (decode (zcode i) (pc + 3) = .ok (.dup, 1)) && decide (decode (zcode i) (pc + 4) = .ok (.ldc o.2.2.1, 2)) && decide (decode (zcode i) (pc + 6) = .ok (.invokespecial o.2.2.2.1, 3)) && decide (decode (zcode i) (pc + 9) = .ok (.athrow, 1)) &&
  decide (o.2.2.2.2.1 < 3) && decide (o.2.2.1 = zsi o.2.2.2.2.1) && decide ((zy i).cls = RX3) && zwd (o.2.2.2.2.2.getD 0 0) (.classLink RX3 o.2.1.toNat (zen o.2.2.2.2.1)) && zwd (o.2.2.2.2.2.getD 1 0) (.initialized (zen o.2.2.2.2.1)) &&
  (vx_atS RX3 o.2.2.2.1 (zen o.2.2.2.2.1) znames).all (fun w => decide (w ∈ lw_tbl) && (goodWord w || zFx w)) && Bundle.fit (zen o.2.2.2.2.1)
section ZW
variable {rul : Nat → List zI} {D : va_G} {cy : Nat → ClassId} {ad : Nat → Nat} {A : Nat → Prop} {nL : Nat} {e : Nat → Int} {lc : zL} {st : List zA} {h : List zC} {S : zS} {ws : va_W} {H : Heap} {locs : List Loc} {ls : Array Slot}
variable {p : Program} {l : Launch} {ev : Env} {R : Room} {s : State} {m : MethodId} {args : Array Value} {below : List Frame} {meth : Method} {c : Code} {cells slots : Nat} {pc i : Nat} {o : zO} {sa : Nat → Nat}
theorem zk_throw {Qc : Array Value → State → Outcome → State → Prop} {XC : String → State → State → Prop} {mc ms : Nat} (hx : p.tables.exec = Jvm.exec) (hb : c.code = zcode i) (hml : c.maxLocals = nL) (hown : s.vm.findClass (zy i).cls = some m.cls) (hts : ∀ w ∈ zTg, w.before args s = true) (hl : l.stackTraces = false) (hF : zF sa A s) (hlk : meth.locks = false) (hnt : ∀ x ∈ c.exceptionTable.toList, False)
    (hg : zgt i pc o = true) (hi : zInv rul D cy ad A nL s.heap e lc st h S ws H locs ls) (hRf : 5 < R.frames) (hRl : zwords st + 82 ≤ R.locals) (hRc : cells + 1 ≤ R.cells) (hRs : slots + 6 ≤ R.slots) (hmc : cells + 1 ≤ mc) (hms : slots + 6 ≤ ms)
    (hX : ∀ t : State, s.vm.Alike t.vm → H.size ≤ t.heap.size → (∀ q : Nat, q < H.size → t.heap[q]? = H[q]?) → XC (zen o.2.2.2.2.1) s t) : W p l ev R s m args below meth c H locs cells slots (vx_MQ below Qc XC args s mc ms A) (F0 m pc ls (zst e ad st)) := by
  unfold zgt at hg
  simp only [Bool.and_eq_true, decide_eq_true_eq] at hg
  obtain ⟨⟨⟨⟨⟨⟨⟨⟨⟨⟨⟨g0, g1⟩, g2⟩, g3⟩, g4⟩, g5⟩, g6⟩, g7⟩, g8⟩, g9⟩, g10⟩, g11⟩ := hg
  rw [g7] at hown
  have hw : ∀ w ∈ vx_atS RX3 o.2.2.2.1 (zen o.2.2.2.2.1) znames, w ∈ lw_tbl ∧ (goodWord w = true ∨ zFx w = true) := fun w hw => by
    have := List.all_eq_true.mp g10 w hw
    simp only [Bool.and_eq_true, Bool.or_eq_true, decide_eq_true_eq] at this
    exact this
  have hx2 : ∀ w : Cond, zFx w = true → w.onTables = true := fun w hz => by cases w <;> first | rfl | (simp [zFx] at hz)
  rw [g6] at g2
  refine vx_throwS (names := znames) hx hb hl hown g11 (by decide +kernel) (hts _ (zwd_in g8)) (hts _ (zwd_in g9)) (hF.1 _ g5) (fun w hw9 => ?_) (fun w hw9 => ?_) hF.2.1 hF.2.2.1 hi.2.2.2.2.2.2.2.1 (hi.2.2.2.2.2.2.2.2.1.trans hml.symm) g0 g1 g2 g3 g4 (fun x hx9 => (hnt x hx9).elim) hRf (by rw [zwords_ok]; exact hRl) hRc hRs hlk hX hi.2.2.2.2.2.2.2.1.2.2 hmc hms
  · obtain ⟨w1, w2⟩ := hw w hw9
    rcases w2 with w2 | w2
    · exact hts w (List.mem_filter.mpr ⟨w1, w2⟩)
    · exact va_Nw.use (hx2 w w2) (hF.2.2.2.1 w (List.mem_filter.mpr ⟨w1, w2⟩))
  · rcases List.mem_cons.mp hw9 with rfl | hw9
    · rfl
    · rcases List.mem_cons.mp hw9 with rfl | hw9
      · rfl
      · unfold vx_ot
        rcases (hw w hw9).2 with w2 | w2
        · rw [w2, Bool.or_true]
        · rw [hx2 w w2, Bool.true_or]
end ZW
end
section
/-! ===== the walk: a method's instructions, its calls run in place or by their patterns ===== -/
/-- a method by its pattern: rank; arguments, cells and bounds ahead; answer, cells and bounds behind (the first numbers are those ahead); what it may throw -/
abbrev zCt : Type := Nat × List zA × List zC × List zI × Option zA × List zC × List zI × List Nat
/-- a loop's head: locals, cells, bounds, measure, cells and slots made by then, facts -/
abbrev zCu : Type := zL × List zC × List zI × zM × Nat × Nat × List (zA × zA)
/-- frames, locals, cells, slots that a method may use; patterns; heads -/
abbrev zCf : Type := (Nat → Nat) × (Nat → Nat) × (Nat → Nat) × (Nat → Nat) × (Nat → Option zCt) × (Nat → Nat → Option zCu)
/-- a method's room within a larger one -/
def zrM (G : zCf) (i Mc Ms : Nat) : Room := { frames := G.1 i, cells := Mc, slots := Ms, locals := G.2.1 i }
def zrm (G : zCf) (i : Nat) : Room := { frames := G.1 i, cells := G.2.2.1 i, slots := G.2.2.2.1 i, locals := G.2.1 i }
abbrev zOut : Type := Nat × zA
abbrev zK : Type := zOut → List zC → zS → Bool
def zopf : List (Nat × zO) → Nat → Option zO
  | [], _ => none
  | q :: l, pc => if q.1 = pc then some q.2 else zopf l pc
def zent : Nat → List zA → zL
  | _, [] => []
  | n, a :: l => (n, a) :: zent (n + 1) l
def zcw (j : Nat) : Cond := if zhh j = [] then .code (zy j) (zcode j) (zmaxL j) (zret j) else .codeWith (zy j) (zcode j) (zmaxL j) (zret j) (zhh j)
/-- its bytes are what runs -/
def zpn (j : Nat) : Bool := plainFor (zy j) && (decide (zhh j = []) || plainName (zy j).cls)
def zgn (j na : Nat) : Bool := decide ((zy j).cls ≠ "java/lang/invoke/MethodHandle") && decide ((zy j).cls ≠ "java/lang/invoke/VarHandle") && decide ((parseMethodDescriptor (zy j).desc).map (fun d => d.parameters.length) = some na) && zpn j
/-- the listing is right at a call -/
def zgc (i pc : Nat) (o : zO) : Bool :=
  if o.1 = 50 then decide (decode (zcode i) pc = .ok (.invokestatic o.2.1.toNat, 3)) && zwd (o.2.2.2.2.2.getD 0 0) (.methodLink (zy i).cls o.2.1.toNat (zy o.2.2.1)) && zwd (o.2.2.2.2.2.getD 1 0) (.static (zy o.2.2.1)) && zwd (o.2.2.2.2.2.getD 2 0) (.initialized (zy o.2.2.1).cls) && zwd (o.2.2.2.2.2.getD 3 0) (zcw o.2.2.1) && zgn o.2.2.1 o.2.2.2.1
  else decide (decode (zcode i) pc = .ok (.invokevirtual o.2.1.toNat, 3)) && zwd (o.2.2.2.2.2.getD 0 0) (.methodLink (zy i).cls o.2.1.toNat (zy o.2.2.1)) && zwd (o.2.2.2.2.2.getD 1 0) (.instanceMethod (zy o.2.2.1)) && zwd (o.2.2.2.2.2.getD 2 0) (.selects (zy o.2.2.1).cls (zy o.2.2.1) (zy o.2.2.1)) && zwd (o.2.2.2.2.2.getD 3 0) (.initialized (zy o.2.2.1).cls) && zwd (o.2.2.2.2.2.getD 4 0) (zcw o.2.2.1) && zgn o.2.2.1 o.2.2.2.1 && decide (zhh o.2.2.1 = [])
/-- the arguments, and what stays on the stack -/
def zargs (o : zO) (st : List zA) (h : List zC) : Option (List zA × List zA) :=
  if o.2.2.2.1 ≤ st.length then (if o.1 = 50 then some ((st.take o.2.2.2.1).reverse, st.drop o.2.2.2.1) else match st.drop o.2.2.2.1 with
    | a :: r => (match h[a.2.2.1]? with
      | some c => if a.1 = 2 ∧ c.1 = 0 ∧ (vwCl[c.2.1]?).map (fun q => q.1) = some (zy o.2.2.1).cls then some (a :: (st.take o.2.2.2.1).reverse, r) else none
      | none => none)
    | [] => none) else none
def zbl (i : Nat) (S : zS) (a : zA) : Bool := match zret i with
  | some .int => true
  | some .boolean => zin S.1 a 0 1
  | _ => false
def zfh : List (Nat × Nat × Nat × Nat) → Nat → Nat → Option Nat
  | [], _, _ => none
  | q :: l, pc, x => if q.1 ≤ pc ∧ pc < q.2.1 then (if zcx q.2.2.2 = x then some q.2.2.1 else zfh l pc x) else zfh l pc x
def zthk (m0 : Nat) (I : List zI) (ps : List (zA × zA)) : List zA := (List.range I.length).map fun v => if v < m0 then (0, 1, v, 0) else match zfv v ps with
  | some a => a
  | none => (0, 0, 0, (I.getD v (0, 0)).1)
/-- the end fits the pattern -/
def zkp (ct : zCt) : zK := fun r h S => if r.1 = 2 then decide (r.2.1 ∈ ct.2.2.2.2.2.2.2) && decide (ct.2.2.2.1.length ≤ ct.2.2.2.2.2.2.1.length) &&
    zmt (ztf (zthk ct.2.2.2.1.length ct.2.2.2.2.2.2.1 (zprs [] [] [] [] ct.2.2.2.2.2.1 h))) S [] [] h [] [] ct.2.2.2.2.2.1 ct.2.2.2.2.2.2.1
  else decide (r.1 = if ct.2.2.2.2.1.isSome then 0 else 1) && decide (ct.2.2.2.1.length ≤ ct.2.2.2.2.2.2.1.length) &&
  zmt (ztf (zthk ct.2.2.2.1.length ct.2.2.2.2.2.2.1 (zprs [] [] ct.2.2.2.2.1.toList (if r.1 = 0 then [r.2] else []) ct.2.2.2.2.2.1 h))) S [] (if r.1 = 0 then [r.2] else []) h [] ct.2.2.2.2.1.toList ct.2.2.2.2.2.1 ct.2.2.2.2.2.2.1
def zcutok (n0 : Option Nat) (mu : Option zM) (cu : zCu) (lc : zL) (st : List zA) (h : List zC) (S : zS) (nc ns : Nat) : Bool := match n0 with
  | none => false
  | some m0 => decide (st = []) && decide (nc ≤ cu.2.2.2.2.1) && decide (ns ≤ cu.2.2.2.2.2.1) && decide (m0 ≤ cu.2.2.1.length) &&
    zmt (ztf (zthk m0 cu.2.2.1 (zprs cu.1 lc [] [] cu.2.1 h))) (zprop S) lc [] h cu.1 [] cu.2.1 cu.2.2.1 &&
    zfcs (ztf (zthk m0 cu.2.2.1 (zprs cu.1 lc [] [] cu.2.1 h))) (zprop S) cu.2.2.2.2.2.2 && cu.2.2.2.2.2.2.all (fun q => zpl cu.2.2.1.length q.1 && zpl cu.2.2.1.length q.2) &&
    (match mu with
      | none => true
      | some m => zless (zprop S).1 (ztf (zthk m0 cu.2.2.1 (zprs cu.1 lc [] [] cu.2.1 h))) cu.2.2.2.1 m)
def zcok (G : zCf) (i : Nat) (o : zO) (q : List zA × List zA) (nc ns : Nat) : Bool := q.1.all (fun a => decide (¬ a.1 = 1)) && decide (G.1 o.2.2.1 + 1 ≤ G.1 i) && decide (8 + (zmaxL o.2.2.1 + 11) + G.2.1 o.2.2.1 ≤ G.2.1 i) && decide (nc + G.2.2.1 o.2.2.1 ≤ G.2.2.1 i) && decide (ns + G.2.2.2.1 o.2.2.1 ≤ G.2.2.2.1 i) && decide (zwords q.2 ≤ 8) && decide (q.1.length ≤ zmaxL o.2.2.1) && decide (¬ o.2.2.1 = 119)
/-- behind a call by its pattern: the pattern's numbers in ours -/
def zsg (n m0 : Nat) (T : List zA) : Nat → zA := fun v => if v < m0 then ztf T v else (0, 1, n + (v - m0), 0)
def zchk (G : zCf) (rul : Nat → List zI) (bd : Nat) : Nat → Nat → Option Nat → Option zM → Bool → Nat → zL → List zA → List zC → zS → Nat → Nat → zK → Bool
  | 0, _, _, _, _, _, _, _, _, _, _, _, _ => false
  | n + 1, i, n0, mu, go, pc, lc, st, h, S, nc, ns, k =>
    match (if go then none else G.2.2.2.2.2 i pc) with
    | some cu => zcutok n0 mu cu lc st h S nc ns
    | none => match zopf (zopl i) pc with
      | none => false
      | some o =>
        if o.1 = 32 then (match st with
          | [a] => decide (a.1 = 0) && zbl i S a && k (0, a) h S
          | _ => false)
        else if o.1 = 33 then (match st with
          | [] => decide (zret i = none) && k (1, (0, 0, 0, 0)) h S
          | _ => false)
        else if o.1 = 36 then decide (zhh i = []) && decide (5 < G.1 i) && decide (zwords st + 82 ≤ G.2.1 i) && decide (nc + 1 ≤ G.2.2.1 i) && decide (ns + 6 ≤ G.2.2.2.1 i) && k (2, (o.2.2.2.2.1, 0, 0, 0)) h S
        else if o.1 = 50 ∨ o.1 = 51 then (match zargs o st h with
          | none => false
          | some q => zcok G i o q nc ns && (match G.2.2.2.2.1 o.2.2.1 with
            | some ct => decide (ct.1 < bd) && decide (ct.2.2.2.1.length ≤ ct.2.2.2.2.2.2.1.length) && zmt (ztf (zthk 0 ct.2.2.2.1 (zprs [] [] ct.2.1 q.1 ct.2.2.1 h))) S [] q.1 h [] ct.2.1 ct.2.2.1 ct.2.2.2.1 &&
                (ct.2.2.2.2.2.2.2.all (fun x => match zfh (zhh i) pc x with
                  | none => decide (zhh i = []) && k (2, (x, 0, 0, 0)) (ct.2.2.2.2.2.1.map (zsbC (zsg S.1.length ct.2.2.2.1.length (zthk 0 ct.2.2.2.1 (zprs [] [] ct.2.1 q.1 ct.2.2.1 h))))) (S.1 ++ ct.2.2.2.2.2.2.1.drop ct.2.2.2.1.length, S.2.1, S.2.2)
                  | some hp => match zopf (zopl i) hp with
                    | some o2 => if o2.1 = 7 then zchk G rul bd n i n0 mu false (hp + 1) (lc.filter (fun w => !(w.1 == o2.2.2.1) && !(w.1 + 1 == o2.2.2.1 && w.2.1 == 1))) [] (ct.2.2.2.2.2.1.map (zsbC (zsg S.1.length ct.2.2.2.1.length (zthk 0 ct.2.2.2.1 (zprs [] [] ct.2.1 q.1 ct.2.2.1 h))))) (S.1 ++ ct.2.2.2.2.2.2.1.drop ct.2.2.2.1.length, S.2.1, S.2.2) (nc + G.2.2.1 o.2.2.1) (ns + G.2.2.2.1 o.2.2.1) k
                      else if o2.1 = 8 then zchk G rul bd n i n0 mu false (hp + 2) (lc.filter (fun w => !(w.1 == o2.2.2.1) && !(w.1 + 1 == o2.2.2.1 && w.2.1 == 1))) [] (ct.2.2.2.2.2.1.map (zsbC (zsg S.1.length ct.2.2.2.1.length (zthk 0 ct.2.2.2.1 (zprs [] [] ct.2.1 q.1 ct.2.2.1 h))))) (S.1 ++ ct.2.2.2.2.2.2.1.drop ct.2.2.2.1.length, S.2.1, S.2.2) (nc + G.2.2.1 o.2.2.1) (ns + G.2.2.2.1 o.2.2.1) k else false
                    | none => false)) &&
                zchk G rul bd n i n0 mu false (pc + 3) lc (ct.2.2.2.2.1.toList.map (zsb (zsg S.1.length ct.2.2.2.1.length (zthk 0 ct.2.2.2.1 (zprs [] [] ct.2.1 q.1 ct.2.2.1 h)))) ++ q.2) (ct.2.2.2.2.2.1.map (zsbC (zsg S.1.length ct.2.2.2.1.length (zthk 0 ct.2.2.2.1 (zprs [] [] ct.2.1 q.1 ct.2.2.1 h))))) (S.1 ++ ct.2.2.2.2.2.2.1.drop ct.2.2.2.1.length, S.2.1, S.2.2) (nc + G.2.2.1 o.2.2.1) (ns + G.2.2.2.1 o.2.2.1) k
            | none => zchk G rul bd n o.2.2.1 none none false 0 (zent 0 q.1) [] h S 0 0 (fun r h' S' =>
                if r.1 = 0 then zchk G rul bd n i n0 mu false (pc + 3) lc (r.2 :: q.2) h' S' (nc + G.2.2.1 o.2.2.1) (ns + G.2.2.2.1 o.2.2.1) k
                else if r.1 = 1 then zchk G rul bd n i n0 mu false (pc + 3) lc q.2 h' S' (nc + G.2.2.1 o.2.2.1) (ns + G.2.2.2.1 o.2.2.1) k
                else match zfh (zhh i) pc r.2.1 with
                  | none => decide (zhh i = []) && k r h' S'
                  | some hp => match zopf (zopl i) hp with
                    | some o2 => if o2.1 = 7 then zchk G rul bd n i n0 mu false (hp + 1) (lc.filter (fun w => !(w.1 == o2.2.2.1) && !(w.1 + 1 == o2.2.2.1 && w.2.1 == 1))) [] h' S' (nc + G.2.2.1 o.2.2.1) (ns + G.2.2.2.1 o.2.2.1) k
                      else if o2.1 = 8 then zchk G rul bd n i n0 mu false (hp + 2) (lc.filter (fun w => !(w.1 == o2.2.2.1) && !(w.1 + 1 == o2.2.2.1 && w.2.1 == 1))) [] h' S' (nc + G.2.2.1 o.2.2.1) (ns + G.2.2.2.1 o.2.2.1) k else false
                    | none => false)))
        else match zsucc rul (G.1 i) (G.2.1 i) i pc o lc st h S with
          | none => false
          | some L => L.all (fun t => zchk G rul bd n i n0 mu false t.1 t.2.1 t.2.2.1 t.2.2.2.1 t.2.2.2.2 nc ns k)
end
section
/-! ===== what a method's walk says of a call of it ===== -/
def zws (i : Nat) : List Cond := zcw i :: zTg
def zPc (D : va_G) (cy : Nat → ClassId) (A : Nat → Prop) (sa : Nat → Nat) (ws : va_W) (vals : List Value) : Array Value → State → Prop := fun v U => v = vals.toArray ∧ va_P D vwCl ws U.heap ∧ va_K D vwCl (ztys cy) U ∧ zF sa A U ∧ ∀ q : Nat, U.heap.size ≤ q → A q
theorem zPc_bl (D : va_G) (cy : Nat → ClassId) (A : Nat → Prop) (sa : Nat → Nat) (ws : va_W) (vals : List Value) : FrameBlind (zPc D cy A sa ws vals) := fun a U g mk q => ⟨q.1, q.2.1, va_K.moved (u := U) (U := U.calling g mk a) (Vm.Alike.refl U.vm) q.2.2.1, zF_bl q.2.2.2.1 g mk a, q.2.2.2.2⟩
/-- the picture at an end -/
def zEnd (rul : Nat → List zI) (D : va_G) (cy : Nat → ClassId) (ad : Nat → Nat) (A : Nat → Prop) (n0 : Nat) (e0 e1 : Nat → Int) (h1 : List zC) (S1 : zS) (ws1 : va_W) (t : State) : Prop :=
  zag n0 e0 e1 ∧ n0 ≤ S1.1.length ∧ zSat rul e1 S1 ∧ (∀ c ∈ h1, ∀ a ∈ c.2.2.2.2, zwf S1.1.length a) ∧ zHR rul cy e1 ad h1 ws1 ∧ va_D A ws1 ∧ va_P D vwCl ws1 t.heap
def zQk (rul : Nat → List zI) (D : va_G) (cy : Nat → ClassId) (ad : Nat → Nat) (A : Nat → Prop) (k : zK) (n0 : Nat) (e0 : Nat → Int) : Array Value → State → Outcome → State → Prop := fun _ st oc t =>
  (∃ (e1 : Nat → Int) (h1 : List zC) (S1 : zS) (ws1 : va_W) (r : zOut), oc = .returned (if r.1 = 0 then some (zval e1 ad r.2) else none) ∧ r.1 ≤ 1 ∧ (r.1 = 0 → r.2.1 = 0 ∧ zwf S1.1.length r.2) ∧ k r h1 S1 = true ∧ zEnd rul D cy ad A n0 e0 e1 h1 S1 ws1 t) ∧ va_F A st t
def zXk (rul : Nat → List zI) (D : va_G) (cy : Nat → ClassId) (ad : Nat → Nat) (A : Nat → Prop) (k : zK) (n0 : Nat) (e0 : Nat → Int) : String → State → State → Prop := fun E st t =>
  (∃ (e1 : Nat → Int) (h1 : List zC) (S1 : zS) (ws1 : va_W) (x : Nat), x < 3 ∧ E = zen x ∧ k (2, (x, 0, 0, 0)) h1 S1 = true ∧ zEnd rul D cy ad A n0 e0 e1 h1 S1 ws1 t) ∧ va_F A st t
section ZC
variable {rul : Nat → List zI} {D : va_G} {cy : Nat → ClassId} {ad : Nat → Nat} {A : Nat → Prop} {nL : Nat} {e : Nat → Int} {lc : zL} {st rest : List zA} {h : List zC} {S : zS} {ws : va_W} {H : Heap} {locs : List Loc} {ls : Array Slot}
variable {p : Program} {l : Launch} {ev : Env} {R : Room} {s : State} {m : MethodId} {args : Array Value} {below : List Frame} {meth : Method} {c : Code} {cells slots mc ms : Nat} {pc : Nat} {Q : State → Prop} {a : Array Value} {kc : zK}
/-- behind a call -/
theorem zk_call (hr : vx_Run p l ev R s m args below meth c H locs cells slots mc ms (F0 m pc ls (zst e ad st)) (zst e ad rest) (zQk rul D cy ad A kc S.1.length e a) (zXk rul D cy ad A kc S.1.length e) A)
    (hi : zInv rul D cy ad A nL s.heap e lc rest h S ws H locs ls)
    (kv : ∀ (e1 : Nat → Int) (h1 : List zC) (S1 : zS) (ws1 : va_W) (r : zOut) (H1 : Heap) (locs1 : List Loc), r.1 ≤ 1 → (r.1 = 0 → r.2.1 = 0 ∧ zwf S1.1.length r.2) → kc r h1 S1 = true → zag S.1.length e e1 → S.1.length ≤ S1.1.length → zInv rul D cy ad A nL s.heap e1 lc rest h1 S1 ws1 H1 locs1 ls → W p l ev R s m args below meth c H1 locs1 (cells + mc) (slots + ms) Q (F0 m (pc + 3) ls ((if r.1 = 0 then some (zval e1 ad r.2) else none : Option Value).toList ++ zst e1 ad rest)))
    (kx : ∀ (e1 : Nat → Int) (h1 : List zC) (S1 : zS) (ws1 : va_W) (x : Nat) (H1 : Heap) (locs1 : List Loc) (q : Addr) (ce : Cell), x < 3 → kc (2, (x, 0, 0, 0)) h1 S1 = true → zag S.1.length e e1 → S.1.length ≤ S1.1.length → zInv rul D cy ad A nL s.heap e1 lc rest h1 S1 ws1 H1 locs1 ls → H1[q]? = some ce → ce.vm = .none → s.vm.findClass (zen x) = some ce.cls → vx_W p l ev R s m args below meth c H1 locs1 (cells + mc) (slots + ms) Q (F0 m pc ls (zst e ad rest)) q) :
    W p l ev R s m args below meth c H locs cells slots Q (F0 m pc ls (zst e ad st)) := by
  have key : ∀ {st₀ t T' : State} {L : List Loc} {e1 : Nat → Int} {h1 : List zC} {S1 : zS} {ws1 : va_W}, st₀.heap = H → T'.heap = t.heap → (∀ q ∈ L, A q.base) → va_F A st₀ t → zEnd rul D cy ad A S.1.length e e1 h1 S1 ws1 t → zInv rul D cy ad A nL s.heap e1 lc rest h1 S1 ws1 T'.heap (locs ++ L) ls := by
    intro st₀ t T' L e1 h1 S1 ws1 h0 eh hL hF hE
    obtain ⟨k1, k2, k3⟩ := vx_keep h0 eh hi.2.2.2.2.2.2.2.1 (fun q _ z => z) (fun q z => z) hL hF
    obtain ⟨g1, g2, g3, g4, g5, g6, g7⟩ := hE
    refine ⟨g3, fun q hq => zwf_le (hi.2.1 q hq) g2, fun b hb => zwf_le (hi.2.2.1 b hb) g2, g4, g5, by rw [eh]; exact g7, g6, k3, ?_⟩
    rw [zlv_ag g1 hi.2.1]
    exact hi.2.2.2.2.2.2.2.2
  intro T hT X
  rcases hr T hT X with ⟨v, st₀, t, T', L, h0, X', hL, eh, ev9, ⟨⟨e1, h1, S1, ws1, r, ho, r1, r2, hk, hE⟩, hF⟩, hgo⟩ | ⟨q, st₀, t, T', L, E, ce, h0, X', hL, eh, ev9, ⟨⟨e1, h1, S1, ws1, x, hx3, rfl, hk, hE⟩, hF⟩, hce, hcv, hcl, hgo⟩
  · have hv : v = if r.1 = 0 then some (zval e1 ad r.2) else none := by injection ho
    have hI := key h0 eh hL hF hE
    obtain ⟨t2, a1, b1⟩ := kv e1 h1 S1 ws1 r T'.heap (locs ++ L) r1 r2 hk hE.1 hE.2.1 hI T' rfl X'
    rw [zst_ag hE.1 hi.2.2.1, ← hv] at a1
    exact ⟨t2, hgo t2 a1, b1⟩
  · have hI := key h0 eh hL hF hE
    obtain ⟨t2, a1, b1⟩ := kx e1 h1 S1 ws1 x T'.heap (locs ++ L) q ce hx3 hk hE.1 hE.2.1 hI (by rw [eh]; exact hce) hcv hcl T' rfl X'
    exact ⟨t2, hgo.trans a1, b1⟩
end ZC
/-- what holds in a method's frame from its start -/
def zAt (D : va_G) (cy : Nat → ClassId) (A : Nat → Prop) (sa : Nat → Nat) (i : Nat) (p : Program) (s : State) (m : MethodId) (args : Array Value) (meth : Method) (c : Code) : Prop :=
  p.tables.exec = Jvm.exec ∧ c.code = zcode i ∧ c.maxLocals = zmaxL i ∧ s.vm.findClass (zy i).cls = some m.cls ∧ (∀ w ∈ zTg, w.before args s = true) ∧ va_K D vwCl (ztys cy) s ∧ zF sa A s ∧ meth.locks = false ∧ meth.sig.returnType = zret i ∧ c.exceptionTable.toList = (if zhh i = [] then [] else tableOf (zhh i)) ∧ ∀ q : Nat, s.heap.size ≤ q → A q
theorem zlg_len (e : Nat → Int) (ad : Nat → Nat) : ∀ as : List zA, (∀ a ∈ as, ¬ a.1 = 1) → (lg_sl (zst e ad as)).length = as.length
  | [], _ => rfl
  | a :: l, h => by
    have h1 := zval_c1 e ad (h a List.mem_cons_self)
    have h2 := zlg_len e ad l fun b hb => h b (List.mem_cons_of_mem _ hb)
    have h3 : ¬ (zval e ad a).category = 2 := by rw [h1]; decide
    show (lg_sl (zval e ad a :: zst e ad l)).length = l.length + 1
    unfold lg_sl at h2 ⊢
    rw [List.flatMap_cons, if_neg h3, List.length_append, h2]
    simp
    omega
theorem zlv_args (e : Nat → Int) (ad : Nat → Nat) : ∀ (n : Nat) (as : List zA), (∀ a ∈ as, ¬ a.1 = 1) → lv_args n (zst e ad as) = zlv e ad (zent n as)
  | _, [], _ => rfl
  | n, a :: l, h => by
    have h1 := zval_c1 e ad (h a List.mem_cons_self)
    have h3 : ¬ (zval e ad a).category = 2 := by rw [h1]; decide
    show (n, zval e ad a) :: lv_args (if (zval e ad a).category = 2 then n + 2 else n + 1) (zst e ad l) = (n, zval e ad a) :: zlv e ad (zent (n + 1) l)
    rw [if_neg h3, zlv_args e ad (n + 1) l fun b hb => h b (List.mem_cons_of_mem _ hb)]
end
section
/-! ===== the walk is right ===== -/
def zOK : Prop := ∀ (i pc : Nat) (o : zO), zopf (zopl i) pc = some o → zgd i pc o = true ∧ (o.1 = 50 ∨ o.1 = 51 → zgc i pc o = true) ∧ (o.1 = 36 → zgt i pc o = true)
def zMetK (l : Launch) (D : va_G) (cy : Nat → ClassId) (ad : Nat → Nat) (A : Nat → Prop) (sa : Nat → Nat) (G : zCf) (rul : Nat → List zI) (i : Nat) (k : zK) (n0 : Nat) (e0 : Nat → Int) (ws : va_W) (vals : List Value) : Prop :=
  vx_Met l (zy i) (zws i) (zrm G i) (zPc D cy A sa ws vals) (zQk rul D cy ad A k n0 e0) (zXk rul D cy ad A k n0 e0) (G.2.2.1 i) (G.2.2.2.1 i) A
def zMetC (l : Launch) (D : va_G) (cy : Nat → ClassId) (ad : Nat → Nat) (A : Nat → Prop) (sa : Nat → Nat) (G : zCf) (rul : Nat → List zI) (j : Nat) (ct : zCt) : Prop :=
  ∀ (e0 : Nat → Int) (ws : va_W), zS1 e0 ct.2.2.2.1 → (∀ c ∈ ct.2.2.1, ∀ a ∈ c.2.2.2.2, zwf ct.2.2.2.1.length a) → (∀ a ∈ ct.2.1, zwf ct.2.2.2.1.length a) → zHR rul cy e0 ad ct.2.2.1 ws → va_D A ws → zMetK l D cy ad A sa G rul j (zkp ct) ct.2.2.2.1.length e0 ws (zst e0 ad ct.2.1)
/-- a row of the method's own table takes it -/
def zCatch (D : va_G) (cy : Nat → ClassId) (A : Nat → Prop) (sa : Nat → Nat) : Prop := ∀ (i pc hp x : Nat) (p : Program) (l : Launch) (ev : Env) (R : Room) (s : State) (m : MethodId) (args : Array Value) (below : List Frame) (meth : Method) (c : Code) (H : Heap) (locs : List Loc) (cells slots : Nat) (Q : State → Prop) (ls : Array Slot) (rest : List Value) (q : Addr) (ce : Cell),
  zAt D cy A sa i p s m args meth c → zfh (zhh i) pc x = some hp → x < 3 → H[q]? = some ce → ce.vm = .none → s.vm.findClass (zen x) = some ce.cls → W p l ev R s m args below meth c H locs cells slots Q (F0 m hp ls [.ref q]) → vx_W p l ev R s m args below meth c H locs cells slots Q (F0 m pc ls rest) q
/-- what is known of the loops' heads -/
def zHc (l : Launch) (D : va_G) (cy : Nat → ClassId) (ad : Nat → Nat) (A : Nat → Prop) (G : zCf) (rul : Nat → List zI) (i : Nat) (n0 : Option Nat) (mu : Option zM) (p : Program) (ev : Env) (s : State) (m : MethodId) (args : Array Value) (below : List Frame) (meth : Method) (c : Code) (Q : State → Prop) (m0 : Nat) (e0 : Nat → Int) (n1 : Nat) (es : Nat → Int) (oc os Mc Ms : Nat) : Prop :=
  ∀ m' : Nat, n0 = some m' → m' = m0 ∧ (∀ u : zM, mu = some u → ∀ q ∈ u.1, zwf n1 q.2) ∧ ∀ (pc : Nat) (cu : zCu) (ec : Nat → Int) (ws : va_W) (H : Heap) (locs : List Loc) (ls : Array Slot), G.2.2.2.2.2 i pc = some cu → zInv rul D cy ad A (zmaxL i) s.heap ec cu.1 [] cu.2.1 (cu.2.2.1, cu.2.2.2.2.2.2, []) ws H locs ls → zag m0 e0 ec → m0 ≤ cu.2.2.1.length → (∀ u : zM, mu = some u → zmu ec cu.2.2.2.1.1 + cu.2.2.2.1.2 < zmu es u.1 + u.2) → W p l ev (zrM G i Mc Ms) s m args below meth c H locs (oc + cu.2.2.2.2.1) (os + cu.2.2.2.2.2.1) Q (F0 m pc ls [])
def zSnd (l : Launch) (D : va_G) (cy : Nat → ClassId) (ad : Nat → Nat) (A : Nat → Prop) (sa : Nat → Nat) (G : zCf) (rul rc : Nat → List zI) (bd n : Nat) : Prop :=
  ∀ (i : Nat) (n0 : Option Nat) (mu : Option zM) (go : Bool) (pc : Nat) (lc : zL) (st : List zA) (h : List zC) (S : zS) (nc ns : Nat) (k : zK), zchk G rc bd n i n0 mu go pc lc st h S nc ns k = true →
  ∀ (p : Program) (ev : Env) (s : State) (m : MethodId) (args : Array Value) (below : List Frame) (meth : Method) (c : Code) (m0 : Nat) (e0 : Nat → Int) (n1 : Nat) (es e : Nat → Int) (ws : va_W) (H : Heap) (locs : List Loc) (ls : Array Slot) (oc os Mc Ms : Nat),
  zAt D cy A sa i p s m args meth c → (i = 119 → zSc rul ad A s) → zInv rul D cy ad A (zmaxL i) s.heap e lc st h S ws H locs ls → zag m0 e0 es → m0 ≤ n1 → zag n1 es e → n1 ≤ S.1.length → nc ≤ G.2.2.1 i → ns ≤ G.2.2.2.1 i → oc + G.2.2.1 i ≤ Mc → os + G.2.2.2.1 i ≤ Ms →
  zHc l D cy ad A G rul i n0 mu p ev s m args below meth c (vx_MQ below (zQk rul D cy ad A k m0 e0) (zXk rul D cy ad A k m0 e0) args s Mc Ms A) m0 e0 n1 es oc os Mc Ms →
  W p l ev (zrM G i Mc Ms) s m args below meth c H locs (oc + nc) (os + ns) (vx_MQ below (zQk rul D cy ad A k m0 e0) (zXk rul D cy ad A k m0 e0) args s Mc Ms A) (F0 m pc ls (zst e ad st))
theorem zthk_id {m0 v : Nat} {I : List zI} {ps : List (zA × zA)} (hv : v < m0) (hm : m0 ≤ I.length) : ztf (zthk m0 I ps) v = (0, 1, v, 0) := by
  unfold ztf zthk
  rw [List.getD_eq_getElem?_getD, List.getElem?_map, List.getElem?_range (by omega)]
  simp [hv]
theorem zec_id {m0 : Nat} {I : List zI} {ps : List (zA × zA)} {e0 e : Nat → Int} (hm : m0 ≤ I.length) (h : zag m0 e0 e) : zag m0 e0 (zec (ztf (zthk m0 I ps)) e) := fun v hv => by
  unfold zec
  rw [zthk_id hv hm]
  show (1 : Int) * e v + 0 = e0 v
  rw [← h v hv]
  omega
theorem zmu_ag {n : Nat} {e e' : Nat → Int} (h : zag n e e') : ∀ T : List (Int × zA), (∀ q ∈ T, zwf n q.2) → zmu e' T = zmu e T
  | [], _ => rfl
  | q :: r, hw => by
    show q.1 * zv e' q.2 + zmu e' r = q.1 * zv e q.2 + zmu e r
    rw [zv_ag h (hw q List.mem_cons_self), zmu_ag h r fun x hx => hw x (List.mem_cons_of_mem _ hx)]
/-- vx_ofW for a class some of whose methods aren't bytes: this one is -/
theorem vx_ofWF {l : Launch} {y : MethodName} {ws ws' : List Cond} {rm : Room} {Pc : Array Value → State → Prop} {Qc : Array Value → State → Outcome → State → Prop} {XC : String → State → State → Prop} {mc ms : Nat} {free : Addr → Prop} {cc : ByteArray} {maxL : Nat} {ret : Option FieldType}
    (hy : plainFor y = true) (hw : ws = Cond.code y cc maxL ret :: ws')
    (body : ∀ p e s m args below meth c s₁, BodyLoose p l y (headSpec ws rm) cc maxL ret e s m args below meth c s₁ → c.maxLocals = maxL → (∀ x ∈ c.exceptionTable.toList, False) → Pc args s →
      W p l e (headSpec ws rm).room s m args below meth c s.heap [] 0 0 (vx_MQ below Qc XC args s mc ms free) (entryFrame m args maxL)) : vx_Met l y ws rm Pc Qc XC mc ms free := by
  refine MetFree.of_bodySF (code := cc) (maxLocals := maxL) (ret := ret) hy ?_ ?_
  · intro args s m h hn
    obtain ⟨meth, c, h1, h2, h3, h4, h5, h6, -, -⟩ := Cond.code_spec hn (atoms_spec (ws := ws) h _ (by rw [hw]; exact List.mem_cons_self))
    exact ⟨meth, c, h1, h2, h3, h4, h5, h6⟩
  · intro p e s m args below meth c s₁ B hml hP _
    have hh0 : s₁.heap = s.heap := by rw [B.state]; rfl
    have ht : ∀ x ∈ c.exceptionTable.toList, False := by
      obtain ⟨meth9, c9, h1, h2, -, -, -, -, h7, -⟩ := Cond.code_spec B.named (atoms_spec (ws := ws) B.pre _ (by rw [hw]; exact List.mem_cons_self))
      cases Option.some.inj (h1.symm.trans B.method)
      cases Option.some.inj (h2.symm.trans (Stand.of_body B).code)
      intro x hx
      rw [Array.isEmpty_iff.mp h7] at hx
      cases hx
    obtain ⟨t, a1, o, b1, b2, b3⟩ := body p e s m args below meth c s₁ B hml ht hP s₁ hh0 (Stand.of_body B)
    exact ⟨t, o, a1, b1, b2, b3⟩
section ZS
variable {l : Launch} {D : va_G} {cy : Nat → ClassId} {ad : Nat → Nat} {A : Nat → Prop} {sa : Nat → Nat} {G : zCf} {rul rc : Nat → List zI} {bd : Nat}
/-- a method's contract out of its walk from the entry -/
theorem zmet_of {n i : Nat} {n0 : Option Nat} {as : List zA} {h : List zC} {S : zS} {k : zK} {e : Nat → Int} {ws : va_W} (hni : ¬ i = 119) (IH : zSnd l D cy ad A sa G rul rc bd n) (hk : zchk G rc bd n i n0 none false 0 (zent 0 as) [] h S 0 0 k = true)
    (htg : ∀ a ∈ as, ¬ a.1 = 1) (hlen : as.length ≤ zmaxL i) (hs : zSat rul e S) (hwf : ∀ a ∈ as, zwf S.1.length a) (hwh : ∀ c ∈ h, ∀ a ∈ c.2.2.2.2, zwf S.1.length a) (hR : zHR rul cy e ad h ws) (hD : va_D A ws) (hplain : zpn i = true)
    (hH : ∀ (p : Program) (ev : Env) (s : State) (m : MethodId) (args : Array Value) (below : List Frame) (meth : Method) (c : Code), zAt D cy A sa i p s m args meth c → zHc l D cy ad A G rul i n0 none p ev s m args below meth c (vx_MQ below (zQk rul D cy ad A k S.1.length e) (zXk rul D cy ad A k S.1.length e) args s (G.2.2.1 i) (G.2.2.2.1 i) A) S.1.length e S.1.length e 0 0 (G.2.2.1 i) (G.2.2.2.1 i)) :
    zMetK l D cy ad A sa G rul i k S.1.length e ws (zst e ad as) := by
  have body : ∀ (p : Program) (ev : Env) (s : State) (m : MethodId) (args : Array Value) (below : List Frame) (meth : Method) (c : Code), zAt D cy A sa i p s m args meth c → zPc D cy A sa ws (zst e ad as) args s → W p l ev (zrm G i) s m args below meth c s.heap [] 0 0 (vx_MQ below (zQk rul D cy ad A k S.1.length e) (zXk rul D cy ad A k S.1.length e) args s (G.2.2.1 i) (G.2.2.2.1 i) A) (entryFrame m args (zmaxL i)) := by
    intro p ev s m args below meth c hat hv
    obtain ⟨rfl, hP, hK, hF, hA⟩ := hv
    have hl := lv_entry (zst e ad as) (n := zmaxL i) (by rw [zlg_len e ad as htg]; exact hlen)
    rw [lg_entry_eq]
    generalize (lg_sl (zst e ad as) ++ List.replicate (zmaxL i - (lg_sl (zst e ad as)).length) Slot.unset).toArray = ls at hl ⊢
    rw [zlv_args e ad 0 as htg] at hl
    have hwe : ∀ (n : Nat) (l : List zA), (∀ a ∈ l, zwf S.1.length a) → ∀ q ∈ zent n l, zwf S.1.length q.2 := by
      intro n l
      induction l generalizing n with
      | nil => intro _ q hq; cases hq
      | cons a r ih =>
        intro hw q hq
        rcases List.mem_cons.mp hq with h1 | h1
        · rw [h1]; exact hw a List.mem_cons_self
        · exact ih (n + 1) (fun b hb => hw b (List.mem_cons_of_mem _ hb)) q h1
    exact IH i n0 none false 0 (zent 0 as) [] h S 0 0 k hk p ev s m _ below meth c S.1.length e S.1.length e e ws s.heap [] ls 0 0 (G.2.2.1 i) (G.2.2.2.1 i) hat (fun q => absurd q hni) ⟨hs, hwe 0 as hwf, fun a ha => (nomatch ha), hwh, hR, hP, hD, va_S.rf, hl⟩ (zag_rf _ _) (Nat.le_refl _) (zag_rf _ _) (Nat.le_refl _) (Nat.zero_le _) (Nat.zero_le _) (Nat.le_of_eq (Nat.zero_add _)) (Nat.le_of_eq (Nat.zero_add _)) (hH p ev s m _ below meth c hat)
  unfold zMetK
  unfold zpn at hplain
  simp only [Bool.and_eq_true, Bool.or_eq_true, decide_eq_true_eq] at hplain
  by_cases hh : zhh i = []
  · refine vx_ofWF (cc := zcode i) (maxL := zmaxL i) (ret := zret i) (ws' := zTg) hplain.1 (by unfold zws zcw; rw [if_pos hh]) ?_
    intro p ev s m args below meth c s₁ B hml hnt hv
    have hts := atoms_spec (ws := zws i) B.pre
    refine body p ev s m args below meth c ⟨B.exec, B.bytes, hml, findClass_of_methodNamed B.named, fun w hw => hts w (List.mem_cons_of_mem _ hw), hv.2.2.1, hv.2.2.2.1, B.notSynchronized, B.returns, ?_, hv.2.2.2.2⟩ hv
    rw [if_pos hh]
    cases he : c.exceptionTable.toList with
    | nil => rfl
    | cons x r => exact (hnt x (by rw [he]; exact List.mem_cons_self)).elim
  · refine vx_ofWH (cc := zcode i) (maxL := zmaxL i) (ret := zret i) (hh := zhh i) (ws' := zTg) (hplain.2.resolve_left hh) (by unfold zws zcw; rw [if_neg hh]) ?_
    intro p ev s m args below meth c s₁ B hml hv
    have hts := atoms_spec (ws := zws i) B.pre
    refine body p ev s m args below meth c ⟨B.exec, B.bytes, hml, findClass_of_methodNamed B.named, fun w hw => hts w (List.mem_cons_of_mem _ hw), hv.2.2.1, hv.2.2.2.1, B.notSynchronized, B.returns, ?_, hv.2.2.2.2⟩ hv
    rw [if_neg hh]
    have hcw := hts (zcw i) List.mem_cons_self
    unfold zcw at hcw
    rw [if_neg hh] at hcw
    exact vx_table (x := zy i) B hcw
end ZS
end
section
/-! ===== ends, calls ===== -/
section ZS
variable {l : Launch} {D : va_G} {cy : Nat → ClassId} {ad : Nat → Nat} {A : Nat → Prop} {sa : Nat → Nat} {G : zCf} {rul : Nat → List zI} {bd : Nat}
variable {i pc nc ns m0 n1 Mc Ms : Nat} {k : zK} {e0 es e : Nat → Int} {lc : zL} {st rest : List zA} {h : List zC} {S : zS} {ws : va_W} {H : Heap} {locs : List Loc} {ls : Array Slot} {p : Program} {ev : Env} {s : State} {m : MethodId} {args : Array Value} {below : List Frame} {meth : Method} {c : Code} {o : zO}
theorem zend_of (hi : zInv rul D cy ad A (zmaxL i) s.heap e lc st h S ws H locs ls) (h0 : zag m0 e0 es) (h1 : m0 ≤ n1) (h2 : zag n1 es e) (h3 : n1 ≤ S.1.length) {t : State} (hP : va_P D vwCl ws t.heap) : zEnd rul D cy ad A m0 e0 e h S ws t :=
  ⟨zag_tr h0 h2 h1, Nat.le_trans h1 h3, hi.1, hi.2.2.2.1, hi.2.2.2.2.1, hi.2.2.2.2.2.2.1, hP⟩
theorem zend_i {a : zA} (hat : zAt D cy A sa i p s m args meth c) (hi : zInv rul D cy ad A (zmaxL i) s.heap e lc [a] h S ws H locs ls) (h0 : zag m0 e0 es) (h1 : m0 ≤ n1) (h2 : zag n1 es e) (h3 : n1 ≤ S.1.length) (hnc : nc ≤ Mc) (hns : ns ≤ Ms) (ha : a.1 = 0) (hb : zbl i S a = true) (hk : k (0, a) h S = true) (hd : decode (zcode i) pc = .ok (.ireturn, 1)) :
    W p l ev (zrM G i Mc Ms) s m args below meth c H locs nc ns (vx_MQ below (zQk rul D cy ad A k m0 e0) (zXk rul D cy ad A k m0 e0) args s Mc Ms A) (F0 m pc ls (zst e ad [a])) := by
  obtain ⟨hx, hcb, hml, hown, hts, hK, hF, hlk, hr, het, hA⟩ := hat
  refine W.widen (k := Mc) (n := Ms) hnc hns (vx_ret ?_)
  have hq : ∀ t : State, t.heap = H → s.WarmedH t.vm → zQk rul D cy ad A k m0 e0 args s (.returned (some (.int (Int32.ofInt (zv e a))))) t := fun t ht _ =>
    ⟨⟨e, h, S, ws, (0, a), by show _ = Outcome.returned (some (zval e ad a)); rw [zval_0 ha], Nat.zero_le _, fun _ => ⟨ha, zI_hd hi⟩, hk, zend_of hi h0 h1 h2 h3 (by rw [ht]; exact hi.2.2.2.2.2.1)⟩, hi.2.2.2.2.2.2.2.1.F ht⟩
  show W p l ev (zrM G i Mc Ms) s m args below meth c H locs _ _ _ (F0 m pc ls [zval e ad a])
  rw [zval_0 ha]
  unfold zbl at hb
  cases hz : zret i with
  | none => rw [hz] at hb; cases hb
  | some ty =>
    rw [hz] at hb
    rw [hz] at hr
    cases ty <;> first | (cases hb; done) | skip
    · exact W.iret (hlocks := hlk) hx hcb hr hq hi.2.2.2.2.2.2.2.1.2.2 hd
    · have hb : zin S.1 a 0 1 = true := hb
      obtain ⟨z1, z2⟩ := zin_ok hi.1.1 hb
      have hz3 : zv e a = 0 ∨ zv e a = 1 := by omega
      refine W.zret (hlocks := hlk) hx hcb hr ?_ hq hi.2.2.2.2.2.2.2.1.2.2 hd
      rcases hz3 with hz3 | hz3
      · rw [hz3]; decide +kernel
      · rw [hz3]; decide +kernel
theorem zend_v (hat : zAt D cy A sa i p s m args meth c) (hi : zInv rul D cy ad A (zmaxL i) s.heap e lc [] h S ws H locs ls) (h0 : zag m0 e0 es) (h1 : m0 ≤ n1) (h2 : zag n1 es e) (h3 : n1 ≤ S.1.length) (hnc : nc ≤ Mc) (hns : ns ≤ Ms) (hr0 : zret i = none) (hk : k (1, (0, 0, 0, 0)) h S = true) (hd : decode (zcode i) pc = .ok (.return_, 1)) :
    W p l ev (zrM G i Mc Ms) s m args below meth c H locs nc ns (vx_MQ below (zQk rul D cy ad A k m0 e0) (zXk rul D cy ad A k m0 e0) args s Mc Ms A) (F0 m pc ls (zst e ad [])) := by
  obtain ⟨hx, hcb, hml, hown, hts, hK, hF, hlk, hr, het, hA⟩ := hat
  rw [hr0] at hr
  refine W.widen (k := Mc) (n := Ms) hnc hns (vx_ret ?_)
  exact W.vret (hlocks := hlk) hx hcb hr (fun t ht _ => ⟨⟨e, h, S, ws, (1, (0, 0, 0, 0)), rfl, Nat.le_refl _, fun q => (nomatch q), hk, zend_of hi h0 h1 h2 h3 (by rw [ht]; exact hi.2.2.2.2.2.1)⟩, hi.2.2.2.2.2.2.2.1.F ht⟩) hi.2.2.2.2.2.2.2.1.2.2 hd
theorem zend_x (hl : l.stackTraces = false) (hat : zAt D cy A sa i p s m args meth c) (hi : zInv rul D cy ad A (zmaxL i) s.heap e lc st h S ws H locs ls) (h0 : zag m0 e0 es) (h1 : m0 ≤ n1) (h2 : zag n1 es e) (h3 : n1 ≤ S.1.length) (hg : zgt i pc o = true) (hh : zhh i = []) (r1 : 5 < G.1 i) (r2 : zwords st + 82 ≤ G.2.1 i) (r3 : nc + 1 ≤ Mc) (r4 : ns + 6 ≤ Ms) (hk : k (2, (o.2.2.2.2.1, 0, 0, 0)) h S = true) :
    W p l ev (zrM G i Mc Ms) s m args below meth c H locs nc ns (vx_MQ below (zQk rul D cy ad A k m0 e0) (zXk rul D cy ad A k m0 e0) args s Mc Ms A) (F0 m pc ls (zst e ad st)) := by
  obtain ⟨hx, hcb, hml, hown, hts, hK, hF, hlk, hr, het, hA⟩ := hat
  have h3x : o.2.2.2.2.1 < 3 := by
    have hg2 := hg
    unfold zgt at hg2
    simp only [Bool.and_eq_true, decide_eq_true_eq] at hg2
    exact hg2.1.1.1.1.1.1.2
  have hS := hi.2.2.2.2.2.2.2.1
  refine zk_throw hx hcb hml hown hts hl hF hlk (fun x hx9 => by rw [het, if_pos hh] at hx9; cases hx9) hg hi r1 r2 r3 r4 r3 r4 fun t _ hz hkp => ?_
  refine ⟨⟨e, h, S, ws, o.2.2.2.2.1, h3x, rfl, hk, zend_of hi h0 h1 h2 h3 (hi.2.2.2.2.2.1.kept fun k9 q9 hk9 => hkp _ (hi.2.2.2.2.2.1 k9 q9 hk9).lt)⟩, Nat.le_trans hS.1 hz, fun q q1 q2 => ?_⟩
  rw [hkp q (Nat.lt_of_lt_of_le q1 hS.1)]
  exact hS.2.1 q q1 q2
/-- what a call site's words give -/
theorem zcallB {na : Nat} {j ix : Nat} (hat : zAt D cy A sa i p s m args meth c) (hh : zhh j = []) (hw1 : Cond.methodLink (zy i).cls ix (zy j) ∈ zTg) (hw2 : Cond.initialized (zy j).cls ∈ zTg) (hw3 : zcw j ∈ zTg) (hgn : zgn j na = true) (r1 : G.1 j + 1 ≤ G.1 i) (r2 : 8 + (zmaxL j + 11) + G.2.1 j ≤ G.2.1 i) :
    CallB (zrM G i Mc Ms) s args (zy i).cls ix (zy j) (zcode j) (zmaxL j) (zret j) (zws j) (zrm G j) (G.2.2.1 j) (G.2.2.2.1 j) na := by
  obtain ⟨hx, hcb, hml, hown, hts, hK, hF, hlk, hr, het, hA⟩ := hat
  unfold zgn at hgn
  simp only [Bool.and_eq_true, decide_eq_true_eq] at hgn
  obtain ⟨⟨⟨g1, g2⟩, g3⟩, g4⟩ := hgn
  have hc : zcw j = Cond.code (zy j) (zcode j) (zmaxL j) (zret j) := by unfold zcw; rw [if_pos hh]
  refine ⟨rfl, rfl, r1, r2, pay_in hts fun w hw => ?_, by unfold zws; rw [hc]; exact List.mem_cons_self, by rw [← hc]; exact hts _ hw3, hts _ hw2, ⟨g1, g2⟩, fun sig hsig => ?_, hts _ hw1⟩
  · rcases List.mem_cons.mp hw with rfl | hw
    · exact ⟨hw3, good_of_word (List.mem_filter.mp hw3).2⟩
    · exact ⟨hw, good_of_word (List.mem_filter.mp hw).2⟩
  · rw [hsig] at g3
    exact (Option.some.inj g3).symm
theorem zcallW {na : Nat} {j ix : Nat} (hat : zAt D cy A sa i p s m args meth c) (hh : ¬ zhh j = []) (hw1 : Cond.methodLink (zy i).cls ix (zy j) ∈ zTg) (hw2 : Cond.initialized (zy j).cls ∈ zTg) (hw3 : zcw j ∈ zTg) (hw4 : Cond.static (zy j) ∈ zTg) (hgn : zgn j na = true) (r1 : G.1 j + 1 ≤ G.1 i) (r2 : 8 + (zmaxL j + 11) + G.2.1 j ≤ G.2.1 i) :
    vx_CSW (zrM G i Mc Ms) s args (zy i).cls ix (zy j) (zcode j) (zmaxL j) (zret j) (zhh j) (zws j) (zrm G j) (G.2.2.1 j) (G.2.2.2.1 j) na := by
  obtain ⟨hx, hcb, hml, hown, hts, hK, hF, hlk, hr, het, hA⟩ := hat
  unfold zgn at hgn
  simp only [Bool.and_eq_true, decide_eq_true_eq] at hgn
  obtain ⟨⟨⟨g1, g2⟩, g3⟩, g4⟩ := hgn
  have hc : zcw j = Cond.codeWith (zy j) (zcode j) (zmaxL j) (zret j) (zhh j) := by unfold zcw; rw [if_neg hh]
  refine ⟨⟨rfl, rfl, r1, r2, pay_in hts fun w hw => ?_, by unfold zws; rw [hc]; exact List.mem_cons_self⟩, by rw [← hc]; exact hts _ hw3, hts _ hw2, ⟨g1, g2⟩, fun sig hsig => ?_, hts _ hw1, hts _ hw4⟩
  · rcases List.mem_cons.mp hw with rfl | hw
    · exact ⟨hw3, good_of_word (List.mem_filter.mp hw3).2⟩
    · exact ⟨hw, good_of_word (List.mem_filter.mp hw).2⟩
  · rw [hsig] at g3
    exact (Option.some.inj g3).symm
/-- a call, by the callee's contract -/
theorem zrun {q : List zA × List zA} {kc : zK} {n0 oc os : Nat} {ec : Nat → Int} (hoc : oc + G.2.2.1 i ≤ Mc) (hos : os + G.2.2.2.1 i ≤ Ms) (hat : zAt D cy A sa i p s m args meth c) (hi : zInv rul D cy ad A (zmaxL i) s.heap e lc st h S ws H locs ls) (hg : zgc i pc o = true) (hq : zargs o st h = some q) (hok : zcok G i o q nc ns = true)
    (hM : zMetK l D cy ad A sa G rul o.2.2.1 kc n0 ec ws (zst e ad q.1)) (ho : o.1 = 50 ∨ o.1 = 51) :
    (∃ a : Array Value, vx_Run p l ev (zrM G i Mc Ms) s m args below meth c H locs (oc + nc) (os + ns) (G.2.2.1 o.2.2.1) (G.2.2.2.1 o.2.2.1) (F0 m pc ls (zst e ad st)) (zst e ad q.2) (zQk rul D cy ad A kc n0 ec a) (zXk rul D cy ad A kc n0 ec) A) := by
  have hat2 := hat
  obtain ⟨hx, hcb, hml, hown, hts, hK, hF, hlk, hr, het, hA⟩ := hat2
  unfold zcok at hok
  simp only [Bool.and_eq_true, decide_eq_true_eq] at hok
  obtain ⟨⟨⟨⟨⟨⟨⟨-, k1⟩, k2⟩, k3⟩, k4⟩, k5⟩, -⟩, -⟩ := hok
  have hS := hi.2.2.2.2.2.2.2.1
  have hpre : ∀ U : State, U.heap = H → s.WarmedH U.vm → zPc D cy A sa ws (zst e ad q.1) (zst e ad q.1).toArray U := fun U hU hW => ⟨rfl, by rw [hU]; exact hi.2.2.2.2.2.1, va_K.moved hW.alike hK, zF_go hF hS hU hW, fun z hz => hA z (by rw [hU] at hz; exact Nat.le_trans hS.1 hz)⟩
  have hbl := zPc_bl D cy A sa ws (zst e ad q.1)
  have hwd : ((zst e ad q.2).map fun v => v.category).sum ≤ 8 := by rw [zwords_ok]; exact k5
  have hsz := hi.2.2.2.2.2.2.2.2.1
  unfold zargs at hq
  by_cases hn : o.2.2.2.1 ≤ st.length
  · rw [if_pos hn] at hq
    have hsplit : zst e ad st = zst e ad (st.take o.2.2.2.1) ++ zst e ad (st.drop o.2.2.2.1) := by
      unfold zst
      rw [← List.map_append, List.take_append_drop]
    have hrev : (zst e ad (st.take o.2.2.2.1).reverse).reverse = zst e ad (st.take o.2.2.2.1) := by
      unfold zst
      rw [List.map_reverse, List.reverse_reverse]
    have hlen : (zst e ad (st.take o.2.2.2.1).reverse).length = o.2.2.2.1 := by
      unfold zst
      rw [List.length_map, List.length_reverse, List.length_take]
      omega
    by_cases h50 : o.1 = 50
    · rw [if_pos h50] at hq
      cases hq
      unfold zgc at hg
      rw [if_pos h50] at hg
      simp only [Bool.and_eq_true, decide_eq_true_eq] at hg
      obtain ⟨⟨⟨⟨⟨g1, g2⟩, g3⟩, g4⟩, g5⟩, g6⟩ := hg
      refine ⟨(zst e ad (st.take o.2.2.2.1).reverse).toArray, ?_⟩
      by_cases hh : zhh o.2.2.1 = []
      · exact vx_runS (As := zst e ad (st.take o.2.2.2.1).reverse) (rest := zst e ad (st.drop o.2.2.2.1)) ⟨hx, hcb, hml, hown, hts⟩ hM ⟨zcallB hat hh (zwd_in g2) (zwd_in g4) (zwd_in g5) g6 k1 k2, hts _ (zwd_in g3)⟩ ⟨hbl, hpre⟩ rfl hlen hsz (by show zst e ad st = _; rw [hrev]; exact hsplit) (lv_room hwd) g1 ⟨(by show oc + nc + _ ≤ Mc; omega), (by show os + ns + _ ≤ Ms; omega)⟩
      · exact vx_runSX (As := zst e ad (st.take o.2.2.2.1).reverse) (rest := zst e ad (st.drop o.2.2.2.1)) ⟨hx, hcb, hml, hown, hts⟩ hM (zcallW hat hh (zwd_in g2) (zwd_in g4) (zwd_in g5) (zwd_in g3) g6 k1 k2) ⟨hbl, hpre⟩ rfl hlen hsz (by show zst e ad st = _; rw [hrev]; exact hsplit) (lv_room hwd) g1 ⟨(by show oc + nc + _ ≤ Mc; omega), (by show os + ns + _ ≤ Ms; omega)⟩
    · rw [if_neg h50] at hq
      unfold zgc at hg
      rw [if_neg h50] at hg
      simp only [Bool.and_eq_true, decide_eq_true_eq] at hg
      obtain ⟨⟨⟨⟨⟨⟨⟨g1, g2⟩, g3⟩, g4⟩, g5⟩, g6⟩, g7⟩, g8⟩ := hg
      cases hd : st.drop o.2.2.2.1 with
      | nil => rw [hd] at hq; cases hq
      | cons a r =>
        rw [hd] at hq hsplit
        simp only at hq
        cases hc : h[a.2.2.1]? with
        | none => rw [hc] at hq; cases hq
        | some c9 =>
          rw [hc] at hq
          simp only at hq
          by_cases hc2 : a.1 = 2 ∧ c9.1 = 0 ∧ (vwCl[c9.2.1]?).map (fun q => q.1) = some (zy o.2.2.1).cls
          · rw [if_pos hc2] at hq
            cases hq
            obtain ⟨ha2, hc3, hc4⟩ := hc2
            refine ⟨(Value.ref (ad a.2.2.1) :: zst e ad (st.take o.2.2.2.1).reverse).toArray, ?_⟩
            obtain ⟨c0, c1, cc2, cc3, cc4⟩ := c9
            have hc3 : c0 = 0 := hc3
            subst hc3
            obtain ⟨E, q1, q2⟩ := hi.2.2.2.2.1.2 _ _ hc
            have q2 : E = .inr (c1, zst e ad cc4) := q2
            subst q2
            cases hv : vwCl[c1]? with
            | none => simp only [hv] at hc4; cases hc4
            | some r9 =>
              simp only [hv] at hc4
              have hc5 : r9.1 = (zy o.2.2.1).cls := Option.some.inj hc4
              have hrc := va_recv hK hi.2.2.2.2.2.1 hv q1
              rw [hc5] at hrc
              have hpre2 : ∀ U : State, U.heap = H → s.WarmedH U.vm → zPc D cy A sa ws (zst e ad (a :: (st.take o.2.2.2.1).reverse)) (Value.ref (ad a.2.2.1) :: zst e ad (st.take o.2.2.2.1).reverse).toArray U := fun U hU hW => by
                have := hpre U hU hW
                rw [show zst e ad (a :: (st.take o.2.2.2.1).reverse) = Value.ref (ad a.2.2.1) :: zst e ad (st.take o.2.2.2.1).reverse from by show zval e ad a :: zst e ad (st.take o.2.2.2.1).reverse = _; rw [zval_2 ha2]] at this ⊢
                exact this
              exact vx_runV (C := (zy o.2.2.1).cls) (b := ad a.2.2.1) (As := zst e ad (st.take o.2.2.2.1).reverse) (rest := zst e ad r) ⟨hx, hcb, hml, hown, hts⟩ hM ⟨zcallB hat g8 (zwd_in g2) (zwd_in g5) (zwd_in g6) g7 k1 k2, hts _ (zwd_in g3), hts _ (zwd_in g4)⟩ ⟨hbl, hrc, hpre2⟩ rfl hlen hsz (by show zst e ad st = _; rw [hrev, hsplit]; show _ ++ (zval e ad a :: zst e ad r) = _; rw [zval_2 ha2]) (lv_room hwd) g1 ⟨(by show oc + nc + _ ≤ Mc; omega), (by show os + ns + _ ≤ Ms; omega)⟩
          · rw [if_neg hc2] at hq
            cases hq
  · rw [if_neg hn] at hq
    cases hq
theorem zargs_in {q : List zA × List zA} (hq : zargs o st h = some q) : (∀ b ∈ q.1, b ∈ st) ∧ ∀ b ∈ q.2, b ∈ st := by
  unfold zargs at hq
  by_cases hn : o.2.2.2.1 ≤ st.length
  · rw [if_pos hn] at hq
    by_cases h50 : o.1 = 50
    · rw [if_pos h50] at hq
      cases hq
      exact ⟨fun b hb => List.mem_of_mem_take (List.mem_reverse.mp hb), fun b hb => List.mem_of_mem_drop hb⟩
    · rw [if_neg h50] at hq
      cases hd : st.drop o.2.2.2.1 with
      | nil => rw [hd] at hq; cases hq
      | cons a r =>
        rw [hd] at hq
        simp only at hq
        cases hc : h[a.2.2.1]? with
        | none => rw [hc] at hq; cases hq
        | some c9 =>
          rw [hc] at hq
          simp only at hq
          by_cases hc2 : a.1 = 2 ∧ c9.1 = 0 ∧ (vwCl[c9.2.1]?).map (fun q => q.1) = some (zy o.2.2.1).cls
          · rw [if_pos hc2] at hq
            cases hq
            refine ⟨fun b hb => ?_, fun b hb => List.mem_of_mem_drop (by rw [hd]; exact List.mem_cons_of_mem _ hb)⟩
            rcases List.mem_cons.mp hb with h1 | h1
            · exact List.mem_of_mem_drop (by rw [hd, h1]; exact List.mem_cons_self)
            · exact List.mem_of_mem_take (List.mem_reverse.mp h1)
          · rw [if_neg hc2] at hq
            cases hq
  · rw [if_neg hn] at hq
    cases hq
end ZS
end
section
/-! ===== a callee's pattern in the caller's numbers ===== -/
theorem vx_Run_mono {p : Program} {l : Launch} {e : Env} {R : Room} {s : State} {m : MethodId} {args : Array Value} {below : List Frame} {meth : Method} {c : Code} {H : Heap} {locs : List Loc} {cells slots mc ms : Nat} {g : JFrame} {rest : List Value} {Qa Qb : State → Outcome → State → Prop} {XC XD : String → State → State → Prop} {free : Addr → Prop}
    (h : vx_Run p l e R s m args below meth c H locs cells slots mc ms g rest Qa XC free) (h1 : ∀ st oc t, Qa st oc t → Qb st oc t) (h2 : ∀ E st t, XC E st t → XD E st t) : vx_Run p l e R s m args below meth c H locs cells slots mc ms g rest Qb XD free := by
  intro T hT X
  rcases h T hT X with ⟨v, st₀, t, T', L, a0, a1, a2, a3, a4, a5, a6⟩ | ⟨q, st₀, t, T', L, E, ce, a0, a1, a2, a3, a4, a5, a6⟩
  · exact Or.inl ⟨v, st₀, t, T', L, a0, a1, a2, a3, a4, h1 _ _ _ a5, a6⟩
  · exact Or.inr ⟨q, st₀, t, T', L, E, ce, a0, a1, a2, a3, a4, h2 _ _ _ a5, a6⟩
theorem zHR_sb {rul : Nat → List zI} {cy : Nat → ClassId} {ad : Nat → Nat} {e : Nat → Int} {th : Nat → zA} {h : List zC} {ws : va_W} {n : Nat} (hp : h.all (fun c => c.2.2.2.2.all (zpl n)) = true) (hq : h.all (fun c => decide (¬ c.1 = 3) || c.2.2.2.2.all (fun a => decide (a.2.1 = 0))) = true) (hr : zHR rul cy (zec th e) ad h ws) : zHR rul cy e ad (h.map (zsbC th)) ws := by
  refine ⟨by rw [List.length_map]; exact hr.1, fun i c hc => ?_⟩
  rw [List.getElem?_map] at hc
  cases hc2 : h[i]? with
  | none => rw [hc2] at hc; cases hc
  | some d =>
    rw [hc2] at hc
    have hc : zsbC th d = c := Option.some.inj hc
    subst hc
    obtain ⟨E, q1, q2⟩ := hr.2 i d hc2
    refine ⟨E, q1, ?_⟩
    have hm := List.mem_of_getElem? hc2
    have hpl : ∀ a ∈ d.2.2.2.2, zpl n a = true := List.all_eq_true.mp (List.all_eq_true.mp hp d hm)
    have h12 := List.all_eq_true.mp hq d hm
    obtain ⟨t, ci, len, rr, fs⟩ := d
    have hpl : ∀ a ∈ fs, zpl n a = true := hpl
    have hget : ∀ (j : Nat) (b : zA), (fs.map (zsb th))[j]? = some b → ∃ a, fs[j]? = some a ∧ b = zsb th a := fun j b hb => by
      rw [List.getElem?_map] at hb
      cases ha : fs[j]? with
      | none => rw [ha] at hb; cases hb
      | some a => rw [ha] at hb; exact ⟨a, rfl, (Option.some.inj hb).symm⟩
    match t, q2, h12 with
    | 0, q2, _ =>
      have q2 : E = .inr (ci, zst (zec th e) ad fs) := q2
      show E = .inr (ci, zst e ad (fs.map (zsb th)))
      rw [q2]
      congr 2
      unfold zst
      rw [List.map_map]
      exact List.map_congr_left fun a ha => (zsb_val th e ad (zpl_t (hpl a ha))).symm
    | 1, ⟨f, q3, q4, q5⟩, _ => exact ⟨f, q3, by show (fs.map (zsb th)).length = len; rw [List.length_map]; exact q4, fun j b hb => by
        obtain ⟨a, ha, rfl⟩ := hget j b hb
        rw [q5 j a ha, zsb_v]⟩
    | 2, ⟨f, q3, q4, q5⟩, _ => exact ⟨f, q3, q4, by show zX rr f ((fs.map (zsb th)).map (zv e)); rw [zmap_sb]; exact q5⟩
    | 5, ⟨n, f, q3, q4, q5⟩, _ => exact ⟨n, f, q3, q4, by show zY n f ((fs.map (zsb th)).map (zv e)); rw [zmap_sb]; exact q5⟩
    | 3, ⟨f, q3, q4, q5⟩, h12 => exact ⟨f, q3, by show (fs.map (zsb th)).length = len; rw [List.length_map]; exact q4, fun j b hb => by
        obtain ⟨a, ha, rfl⟩ := hget j b hb
        rw [q5 j a ha]
        simp only [not_true, decide_false, Bool.false_or] at h12
        have h13 := of_decide_eq_true (List.all_eq_true.mp h12 a (List.mem_of_getElem? ha))
        rw [show zsb th a = a from by unfold zsb; rw [if_pos h13]]⟩
    | 4, ⟨f, q3, q4, q5⟩, _ => exact ⟨f, q3, by show (fs.map (zsb th)).length = len; rw [List.length_map]; exact q4, fun j b hb => by
        obtain ⟨a, ha, rfl⟩ := hget j b hb
        rw [q5 j a ha, zsb_v]⟩
    | t + 6, ⟨f, q3, q4, q5⟩, _ => exact ⟨f, q3, by show (fs.map (zsb th)).length = len; rw [List.length_map]; exact q4, fun j b hb => by
        obtain ⟨a, ha, rfl⟩ := hget j b hb
        rw [q5 j a ha, zsb_v]⟩
/-- the caller's picture behind a call by its pattern -/
def zr0 (rt : Option zA) (th : Nat → zA) : zOut := match rt with
  | some a => (0, zsb th a)
  | none => (1, (0, 0, 0, 0))
noncomputable def zk2 (r0 : zOut) (xs : List Nat) (h0 : List zC) (S0 : zS) : zK := fun r h S => @decide ((r = r0 ∨ ∃ x ∈ xs, r = (2, (x, 0, 0, 0))) ∧ h = h0 ∧ S = S0) (Classical.propDecidable _)
theorem zcv {rul : Nat → List zI} {D : va_G} {cy : Nat → ClassId} {ad : Nat → Nat} {A : Nat → Prop} {e e1 : Nat → Int} {S S1 : zS} {T stT st : List zA} {I0 I1 : List zI} {h1 h1T : List zC} {ws1 : va_W} {t : State} (hs : zSat rul e S) (hl : I0.length ≤ I1.length) (hT : ∀ v, v < I0.length → zwf S.1.length (ztf T v))
    (hE : zEnd rul D cy ad A I0.length (zec (ztf T) e) e1 h1 S1 ws1 t) (hrl : ∀ a ∈ st, zwf S1.1.length a) (k3 : zmt (ztf (zthk I0.length I1 (zprs [] [] stT st h1T h1))) S1 [] st h1 [] stT h1T I1 = true) :
    ∃ e3 : Nat → Int, zEnd rul D cy ad A S.1.length e e3 (h1T.map (zsbC (zsg S.1.length I0.length T))) (S.1 ++ I1.drop I0.length, S.2.1, S.2.2) ws1 t ∧ zst e3 ad (stT.map (zsb (zsg S.1.length I0.length T))) = zst e1 ad st ∧ (∀ a ∈ stT, zwf (S.1 ++ I1.drop I0.length).length (zsb (zsg S.1.length I0.length T) a)) ∧ stT.map (fun a => a.1) = st.map (fun a => a.1) := by
  obtain ⟨g1, g2, g3, g4, g5, g6, g7⟩ := hE
  have hmt0 := k3
  unfold zmt at hmt0
  simp only [Bool.and_eq_true, decide_eq_true_eq] at hmt0
  obtain ⟨⟨⟨⟨⟨⟨⟨-, m2⟩, -⟩, -⟩, m5⟩, -⟩, m7⟩, m8⟩ := hmt0
  obtain ⟨hI, hv⟩ := zmt_ok (D := D) (A := A) (nL := 0) (H0 := t.heap) (H := t.heap) (locs := []) (ls := #[]) (ws := ws1) (cy := cy) (ad := ad) k3 ⟨g3, fun q hq => (nomatch hq), hrl, g4, g5, g7, g6, va_S.rf, ⟨rfl, ⟨fun i v h => by simp at h, fun i h => by simp at h⟩, fun q hq => (nomatch hq)⟩⟩
  obtain ⟨e2, he2⟩ : ∃ z, z = zec (ztf (zthk I0.length I1 (zprs [] [] stT st h1T h1))) e1 := ⟨_, rfl⟩
  rw [← he2] at hI hv
  have hag : zag I0.length (zec (ztf T) e) e2 := by rw [he2]; exact zec_id hl g1
  obtain ⟨n, hn⟩ : ∃ n, n = S.1.length := ⟨_, rfl⟩
  rw [← hn] at hT ⊢
  obtain ⟨e3, he3⟩ : ∃ z : Nat → Int, z = fun v => if v < n then e v else e2 (v - n + I0.length) := ⟨_, rfl⟩
  have hag3 : zag n e e3 := fun v hv => by rw [he3]; simp [hv]
  have hsg : zec (zsg n I0.length T) e3 = e2 := by
    funext v
    unfold zec zsg
    by_cases hvm : v < I0.length
    · rw [if_pos hvm, zv_ag hag3 (hT v hvm)]
      exact (hag v hvm).symm
    · rw [if_neg hvm]
      show (1 : Int) * e3 (n + (v - I0.length)) + 0 = e2 v
      rw [he3]
      simp only
      rw [if_neg (by omega), show n + (v - I0.length) - n + I0.length = v by omega]
      omega
  have hlen : (S.1 ++ I1.drop I0.length).length = n + (I1.length - I0.length) := by rw [List.length_append, List.length_drop, hn]
  have hwf : ∀ a : zA, zpl I1.length a = true → zwf (S.1 ++ I1.drop I0.length).length (zsb (zsg n I0.length T) a) := by
    intro a ha
    rw [hlen]
    have hw := zpl_w ha
    unfold zsb
    by_cases ha0 : a.2.1 = 0
    · rw [if_pos ha0]; exact Or.inl ha0
    · rw [if_neg ha0]
      have hlt : a.2.2.1 < I1.length := hw.resolve_left ha0
      by_cases hvm : a.2.2.1 < I0.length
      · have hz := hT _ hvm
        unfold zsg
        rw [if_pos hvm]
        rcases hz with hz | hz
        · exact Or.inl (by show a.2.1 * (ztf T a.2.2.1).2.1 = 0; rw [hz, Int.mul_zero])
        · exact Or.inr (by show (ztf T a.2.2.1).2.2.1 < _; omega)
      · unfold zsg
        rw [if_neg hvm]
        exact Or.inr (by show n + (a.2.2.1 - I0.length) < _; omega)
  have htag : ∀ (th : Nat → zA) (a : zA), (zsb th a).1 = a.1 := fun th a => by
    unfold zsb
    by_cases hq : a.2.1 = 0
    · rw [if_pos hq]
    · rw [if_neg hq]
  refine ⟨e3, ⟨hag3, ?_, ⟨?_, ?_, ?_⟩, ?_, ?_, g6, g7⟩, ?_, fun a ha => hwf a (List.all_eq_true.mp m5 a ha), ?_⟩
  · rw [hlen]; omega
  · intro v i hvi
    have hvi : (S.1 ++ I1.drop I0.length)[v]? = some i := hvi
    by_cases hvn : v < n
    · rw [List.getElem?_append_left (by rw [← hn]; exact hvn)] at hvi
      rw [hag3 v hvn]
      exact hs.1 v i hvi
    · rw [List.getElem?_append_right (by rw [← hn]; omega), List.getElem?_drop, ← hn] at hvi
      rw [he3]
      simp only
      rw [if_neg hvn]
      exact hI.1.1 _ i (by show I1[v - n + I0.length]? = some i; rw [show v - n + I0.length = I0.length + (v - n) by omega]; exact hvi)
  · intro q hq
    obtain ⟨a1, a2, a3⟩ := hs.2.1 q hq
    rw [← hn] at a1 a2
    show zwf (S.1 ++ I1.drop I0.length).length _ ∧ _
    rw [hlen, zv_ag hag3 a1, zv_ag hag3 a2]
    exact ⟨zwf_le a1 (by omega), zwf_le a2 (by omega), a3⟩
  · intro q hq
    obtain ⟨a1, a2, j, a3, a4⟩ := hs.2.2 q hq
    rw [← hn] at a1 a2
    show _ < (S.1 ++ I1.drop I0.length).length ∧ zwf (S.1 ++ I1.drop I0.length).length _ ∧ _
    rw [hlen, zv_ag hag3 a2, hag3 _ a1]
    exact ⟨by omega, zwf_le a2 (by omega), j, a3, a4⟩
  · intro c hc a ha
    obtain ⟨d, hd, rfl⟩ := List.mem_map.mp hc
    obtain ⟨b, hb, rfl⟩ := List.mem_map.mp ha
    exact hwf b (List.all_eq_true.mp (List.all_eq_true.mp m7 d hd) b hb)
  · exact zHR_sb m7 m8 (by rw [hsg]; exact hI.2.2.2.2.1)
  · rw [← hv]
    unfold zst
    rw [List.map_map]
    exact List.map_congr_left fun a ha => by
      have := zsb_val (zsg n I0.length T) e3 ad (zpl_t (List.all_eq_true.mp m5 a ha))
      rw [hsg] at this
      exact this
  · rw [← m2, List.map_map]
    exact List.map_congr_left fun a _ => (htag _ a).symm
theorem zconv {rul : Nat → List zI} {D : va_G} {cy : Nat → ClassId} {ad : Nat → Nat} {A : Nat → Prop} {e : Nat → Int} {S : zS} {ct : zCt} {T : List zA} {arr : Array Value} {st t : State} {oc : Outcome} (hs : zSat rul e S) (hl : ct.2.2.2.1.length ≤ ct.2.2.2.2.2.2.1.length) (hT : ∀ v, v < ct.2.2.2.1.length → zwf S.1.length (ztf T v))
    (hq : zQk rul D cy ad A (zkp ct) ct.2.2.2.1.length (zec (ztf T) e) arr st oc t) :
    zQk rul D cy ad A (zk2 (zr0 ct.2.2.2.2.1 (zsg S.1.length ct.2.2.2.1.length T)) ct.2.2.2.2.2.2.2 (ct.2.2.2.2.2.1.map (zsbC (zsg S.1.length ct.2.2.2.1.length T))) (S.1 ++ ct.2.2.2.2.2.2.1.drop ct.2.2.2.1.length, S.2.1, S.2.2)) S.1.length e arr st oc t := by
  obtain ⟨rk, aT, h0, I0, rt, h1T, I1, xs⟩ := ct
  obtain ⟨⟨e1, h1, S1, ws1, r, ho, r1, r2, hk, hE⟩, hF⟩ := hq
  unfold zkp at hk
  rw [if_neg (by omega)] at hk
  simp only [Bool.and_eq_true, decide_eq_true_eq] at hk
  obtain ⟨⟨k1, -⟩, k3⟩ := hk
  have hrl : ∀ a ∈ (if r.1 = 0 then [r.2] else []), zwf S1.1.length a := by
    intro a ha
    by_cases hr0 : r.1 = 0
    · rw [if_pos hr0] at ha
      rw [List.mem_singleton.mp ha]
      exact (r2 hr0).2
    · rw [if_neg hr0] at ha
      cases ha
  obtain ⟨e3, hE3, hst, hwf, htag⟩ := zcv hs hl hT hE hrl k3
  refine ⟨⟨e3, h1T.map (zsbC (zsg S.1.length I0.length T)), (S.1 ++ I1.drop I0.length, S.2.1, S.2.2), ws1, zr0 rt (zsg S.1.length I0.length T), ?_, ?_, ?_, ?_, hE3⟩, hF⟩
  · rw [ho]
    cases rt with
    | none =>
      have k1 : r.1 = 1 := k1
      simp [k1, zr0]
    | some a =>
      have k1 : r.1 = 0 := k1
      simp only [k1, if_true, zr0]
      have hv2 : [zval e3 ad (zsb (zsg S.1.length I0.length T) a)] = [zval e1 ad r.2] := by
        have := hst
        simp only [k1, if_true] at this
        exact this
      have h9 : zval e3 ad (zsb (zsg S.1.length I0.length T) a) = zval e1 ad r.2 := by injection hv2
      rw [h9]
  · cases rt <;> simp [zr0]
  · intro hz
    cases rt with
    | none => cases hz
    | some a =>
      have k1 : r.1 = 0 := k1
      refine ⟨?_, hwf a (by show a ∈ [a]; exact List.mem_singleton.mpr rfl)⟩
      have hm2 : [a.1] = (if r.1 = 0 then [r.2] else []).map (fun a => a.1) := htag
      simp only [k1, if_true] at hm2
      have h9 : a.1 = r.2.1 := (List.cons.inj hm2).1
      have h10 := (r2 k1).1
      show (zsb (zsg S.1.length I0.length T) a).1 = 0
      unfold zsb
      by_cases hq : a.2.1 = 0
      · rw [if_pos hq]; omega
      · rw [if_neg hq]; show a.1 = 0; omega
  · unfold zk2
    exact @decide_eq_true _ (Classical.propDecidable _) ⟨Or.inl rfl, rfl, rfl⟩
theorem zconvX {rul : Nat → List zI} {D : va_G} {cy : Nat → ClassId} {ad : Nat → Nat} {A : Nat → Prop} {e : Nat → Int} {S : zS} {ct : zCt} {T : List zA} {st t : State} {E : String} (hs : zSat rul e S) (hl : ct.2.2.2.1.length ≤ ct.2.2.2.2.2.2.1.length) (hT : ∀ v, v < ct.2.2.2.1.length → zwf S.1.length (ztf T v))
    (hq : zXk rul D cy ad A (zkp ct) ct.2.2.2.1.length (zec (ztf T) e) E st t) :
    zXk rul D cy ad A (zk2 (zr0 ct.2.2.2.2.1 (zsg S.1.length ct.2.2.2.1.length T)) ct.2.2.2.2.2.2.2 (ct.2.2.2.2.2.1.map (zsbC (zsg S.1.length ct.2.2.2.1.length T))) (S.1 ++ ct.2.2.2.2.2.2.1.drop ct.2.2.2.1.length, S.2.1, S.2.2)) S.1.length e E st t := by
  obtain ⟨rk, aT, h0, I0, rt, h1T, I1, xs⟩ := ct
  obtain ⟨⟨e1, h1, S1, ws1, x, hx3, hEx, hk, hE⟩, hF⟩ := hq
  unfold zkp at hk
  rw [if_pos rfl] at hk
  simp only [Bool.and_eq_true, decide_eq_true_eq] at hk
  obtain ⟨⟨k1, -⟩, k3⟩ := hk
  obtain ⟨e3, hE3, -, -, -⟩ := zcv (st := []) (stT := []) hs hl hT hE (fun a ha => (nomatch ha)) k3
  refine ⟨⟨e3, h1T.map (zsbC (zsg S.1.length I0.length T)), (S.1 ++ I1.drop I0.length, S.2.1, S.2.2), ws1, x, hx3, hEx, ?_, hE3⟩, hF⟩
  unfold zk2
  exact @decide_eq_true _ (Classical.propDecidable _) ⟨Or.inr ⟨x, k1, rfl⟩, rfl, rfl⟩
end
section
/-! ===== THE WALK IS RIGHT ===== -/
section ZS
variable {l : Launch} {D : va_G} {cy : Nat → ClassId} {ad : Nat → Nat} {A : Nat → Prop} {sa : Nat → Nat} {G : zCf} {rul rc : Nat → List zI} {bd : Nat}
theorem zHc_none {i : Nat} {mu : Option zM} {p : Program} {ev : Env} {s : State} {m : MethodId} {args : Array Value} {below : List Frame} {meth : Method} {c : Code} {Q : State → Prop} {m0 : Nat} {e0 : Nat → Int} {n1 : Nat} {es : Nat → Int} {oc os Mc Ms : Nat} : zHc l D cy ad A G rul i none mu p ev s m args below meth c Q m0 e0 n1 es oc os Mc Ms := fun _ h => nomatch h
theorem zgn_pl {j na : Nat} (h : zgn j na = true) : zpn j = true := by
  unfold zgn at h
  simp only [Bool.and_eq_true] at h
  exact h.2
theorem zgc_pl {i pc : Nat} {o : zO} (h : zgc i pc o = true) : zpn o.2.2.1 = true := by
  unfold zgc at h
  by_cases h5 : o.1 = 50
  · rw [if_pos h5] at h
    simp only [Bool.and_eq_true] at h
    exact zgn_pl h.2
  · rw [if_neg h5] at h
    simp only [Bool.and_eq_true] at h
    exact zgn_pl h.1.2
theorem zlv_drop (e : Nat → Int) (ad : Nat → Nat) (lc : zL) (j : Nat) : (zlv e ad lc).filter (fun q => !(q.1 == j) && !(q.1 + 1 == j && q.2.category == 2)) = zlv e ad (lc.filter (fun w => !(w.1 == j) && !(w.1 + 1 == j && w.2.1 == 1))) := by
  unfold zlv
  rw [List.filter_map]
  congr 1
  apply List.filter_congr
  intro q _
  simp only [Function.comp_apply, zval_cat]
/-- the handler begins by putting the thrown one away -/
theorem zk_hand {i hp nc ns : Nat} {o2 : zO} {e : Nat → Int} {lc : zL} {st : List zA} {h : List zC} {S : zS} {ws : va_W} {H : Heap} {locs : List Loc} {ls : Array Slot} {p : Program} {ev : Env} {R : Room} {s : State} {m : MethodId} {args : Array Value} {below : List Frame} {meth : Method} {c : Code} {Q : State → Prop} {q : Addr}
    (hat : zAt D cy A sa i p s m args meth c) (hi : zInv rul D cy ad A (zmaxL i) s.heap e lc st h S ws H locs ls) (hg : zgd i hp o2 = true) (ho : o2.1 = 7 ∨ o2.1 = 8)
    (kk : ∀ ls' : Array Slot, zInv rul D cy ad A (zmaxL i) s.heap e (lc.filter (fun w => !(w.1 == o2.2.2.1) && !(w.1 + 1 == o2.2.2.1 && w.2.1 == 1))) [] h S ws H locs ls' → W p l ev R s m args below meth c H locs nc ns Q (F0 m (hp + (if o2.1 = 7 then 1 else 2)) ls' [])) :
    W p l ev R s m args below meth c H locs nc ns Q (F0 m hp ls [.ref q]) := by
  obtain ⟨hx, hcb, hml, hown, hts, hK, hF, hlk, hr, het, hA⟩ := hat
  have fin : ∀ ls' : Array Slot, lv_has ls' (zmaxL i) ((o2.2.2.1, Value.ref q) :: (zlv e ad lc).filter (fun q => !(q.1 == o2.2.2.1) && !(q.1 + 1 == o2.2.2.1 && q.2.category == 2))) → zInv rul D cy ad A (zmaxL i) s.heap e (lc.filter (fun w => !(w.1 == o2.2.2.1) && !(w.1 + 1 == o2.2.2.1 && w.2.1 == 1))) [] h S ws H locs ls' := fun ls' hl => by
    rw [zlv_drop] at hl
    exact ⟨hi.1, fun w hw => hi.2.1 w (List.mem_filter.mp hw).1, fun a ha => (nomatch ha), hi.2.2.2.1, hi.2.2.2.2.1, hi.2.2.2.2.2.1, hi.2.2.2.2.2.2.1, hi.2.2.2.2.2.2.2.1, ⟨hl.1, hl.2.1, fun w hw => hl.2.2 w (List.mem_cons_of_mem _ hw)⟩⟩
  unfold zgd at hg
  rcases ho with ho | ho
  · simp only [ho] at hg kk
    split at hg
    · simp only [Bool.and_eq_true, decide_eq_true_eq] at hg
      exact lv_astore_n hx hcb hg.1 rfl hi.2.2.2.2.2.2.2.2 hg.2 rfl fun ls' hl => kk ls' (fin ls' hl)
    · cases hg
  · simp only [ho, Bool.and_eq_true, decide_eq_true_eq] at hg
    have h7 : ¬ o2.1 = 7 := by rw [ho]; decide
    simp only [h7, if_false] at kk
    exact lv_astore hx hcb hg.1 hi.2.2.2.2.2.2.2.2 hg.2 rfl fun ls' hl => kk ls' (fin ls' hl)
set_option maxHeartbeats 4000000 in
theorem zsound (hrl : ∀ r, r < 100 → rc r = rul r) (hl : l.stackTraces = false) (HV : zOK) (hcl : zCl) (HM : ∀ (j : Nat) (ct : zCt), G.2.2.2.2.1 j = some ct → ct.1 < bd → zMetC l D cy ad A sa G rul j ct) (HT : zCatch D cy A sa) : ∀ n : Nat, zSnd l D cy ad A sa G rul rc bd n := by
  intro n
  induction n with
  | zero => intro i n0 mu go pc lc st h S nc ns k hk; unfold zchk at hk; cases hk
  | succ n IH =>
    intro i n0 mu go pc lc st h S nc ns k hk p ev s m args below meth c m0 e0 n1 es e ws H locs ls oc os Mc Ms hat hsc hi h0 h1 h2 h3 hnc hns hoc hos hH
    unfold zchk at hk
    split at hk
    · rename_i cu hcu
      have hcu2 : G.2.2.2.2.2 i pc = some cu := by
        cases go with
        | true => cases hcu
        | false => exact hcu
      unfold zcutok at hk
      cases hn0 : n0 with
      | none => rw [hn0] at hk; cases hk
      | some m' =>
        rw [hn0] at hk
        simp only [Bool.and_eq_true, decide_eq_true_eq] at hk
        obtain ⟨⟨⟨⟨⟨⟨⟨c1, c2⟩, c3⟩, c4⟩, c5⟩, cF⟩, cP⟩, c6⟩ := hk
        subst c1
        obtain ⟨rfl, hmu, hcut⟩ := hH m' hn0
        have hip := zprop_ok hi
        obtain ⟨hI, -⟩ := zmt_ok c5 hip
        have hF := zfcs_ok hip.1 cF
        have hI2 := zI_S (S' := (cu.2.2.1, cu.2.2.2.2.2.2, [])) hI ⟨hI.1.1, fun q hq => by
          have hp := List.all_eq_true.mp cP q hq
          simp only [Bool.and_eq_true] at hp
          exact ⟨zpl_w hp.1, zpl_w hp.2, hF q hq⟩, fun q hq => (nomatch hq)⟩ rfl
        refine W.widen (k := oc + cu.2.2.2.2.1) (n := os + cu.2.2.2.2.2.1) (by omega) (by omega) (hcut pc cu _ ws H locs ls hcu2 hI2 (zec_id c4 (zag_tr h0 h2 h1)) c4 fun u hu => ?_)
        rw [hu] at c6
        have hls := zless_ok hip.1.1 c6
        rw [zmu_ag h2 u.1 (hmu u hu)] at hls
        exact hls
    · split at hk
      · cases hk
      · rename_i o ho
        obtain ⟨v1, v2, v3⟩ := HV i pc o ho
        by_cases c32 : o.1 = 32
        · rw [if_pos c32] at hk
          split at hk
          · rename_i a
            simp only [Bool.and_eq_true, decide_eq_true_eq] at hk
            unfold zgd at v1
            simp only [c32, decide_eq_true_eq] at v1
            exact zend_i hat hi h0 h1 h2 h3 (by omega) (by omega) hk.1.1 hk.1.2 hk.2 v1
          · cases hk
        · rw [if_neg c32] at hk
          by_cases c33 : o.1 = 33
          · rw [if_pos c33] at hk
            split at hk
            · simp only [Bool.and_eq_true, decide_eq_true_eq] at hk
              unfold zgd at v1
              simp only [c33, decide_eq_true_eq] at v1
              exact zend_v hat hi h0 h1 h2 h3 (by omega) (by omega) hk.1 hk.2 v1
            · cases hk
          · rw [if_neg c33] at hk
            by_cases c36 : o.1 = 36
            · rw [if_pos c36] at hk
              simp only [Bool.and_eq_true, decide_eq_true_eq] at hk
              obtain ⟨⟨⟨⟨⟨k1, k2⟩, k3⟩, k4⟩, k5⟩, k6⟩ := hk
              exact zend_x hl hat hi h0 h1 h2 h3 (v3 c36) k1 k2 k3 (by omega) (by omega) k6
            · rw [if_neg c36] at hk
              by_cases c50 : o.1 = 50 ∨ o.1 = 51
              · rw [if_pos c50] at hk
                have hgc := v2 c50
                cases hq : zargs o st h with
                | none => rw [hq] at hk; cases hk
                | some q =>
                  rw [hq] at hk
                  simp only [Bool.and_eq_true] at hk
                  obtain ⟨hok, hk⟩ := hk
                  obtain ⟨hin1, hin2⟩ := zargs_in hq
                  have hok2 := hok
                  unfold zcok at hok2
                  simp only [Bool.and_eq_true, decide_eq_true_eq] at hok2
                  obtain ⟨⟨⟨⟨⟨⟨⟨k0, -⟩, -⟩, k3⟩, k4⟩, -⟩, k6⟩, k7⟩ := hok2
                  have htg : ∀ a ∈ q.1, ¬ a.1 = 1 := fun a ha => of_decide_eq_true (List.all_eq_true.mp k0 a ha)
                  have hir : zInv rul D cy ad A (zmaxL i) s.heap e lc q.2 h S ws H locs ls := zI_st hi fun b hb => hi.2.2.1 b (hin2 b hb)
                  cases hct : G.2.2.2.2.1 o.2.2.1 with
                  | some ct =>
                    rw [hct] at hk
                    simp only [Bool.and_eq_true, decide_eq_true_eq] at hk
                    obtain ⟨⟨⟨⟨b1, b2⟩, b3⟩, bx⟩, b4⟩ := hk
                    have hia : zInv rul D cy ad A (zmaxL i) s.heap e [] q.1 h S ws H locs ls := ⟨hi.1, fun w hw => (nomatch hw), fun b hb => hi.2.2.1 b (hin1 b hb), hi.2.2.2.1, hi.2.2.2.2.1, hi.2.2.2.2.2.1, hi.2.2.2.2.2.2.1, hi.2.2.2.2.2.2.2.1, ⟨hi.2.2.2.2.2.2.2.2.1, hi.2.2.2.2.2.2.2.2.2.1, fun w hw => (nomatch hw)⟩⟩
                    obtain ⟨hI, hv⟩ := zmt_ok b3 hia
                    have hM := HM o.2.2.1 ct hct b1 _ ws hI.1.1 hI.2.2.2.1 hI.2.2.1 hI.2.2.2.2.1 hI.2.2.2.2.2.2.1
                    rw [hv] at hM
                    obtain ⟨ar, hrun⟩ := zrun hoc hos hat hi hgc hq hok hM c50
                    have hwT : ∀ v, v < ct.2.2.2.1.length → zwf S.1.length (ztf (zthk 0 ct.2.2.2.1 (zprs [] [] ct.2.1 q.1 ct.2.2.1 h)) v) := fun v hv9 => by
                      unfold zmt at b3
                      simp only [Bool.and_eq_true] at b3
                      have hz := List.all_eq_true.mp b3.1.1.1.1.1.1.1 v (List.mem_range.mpr hv9)
                      rw [List.getElem?_eq_getElem hv9] at hz
                      exact zin_wf hz
                    have hrun2 := vx_Run_mono hrun (fun st9 oc9 t9 h9 => zconv (T := zthk 0 ct.2.2.2.1 (zprs [] [] ct.2.1 q.1 ct.2.2.1 h)) hi.1 b2 hwT h9) (fun E9 st9 t9 h9 => zconvX (T := zthk 0 ct.2.2.2.1 (zprs [] [] ct.2.1 q.1 ct.2.2.1 h)) hi.1 b2 hwT h9)
                    refine zk_call hrun2 hir (fun e1 h9 S9 ws1 r H1 locs1 r1 r2 hk9 ag len hi9 => ?_) (fun e1 h9 S9 ws1 x H1 locs1 qq ce hx3 hk9 ag len hi9 hce hcv hcl9 => ?_)
                    · unfold zk2 at hk9
                      obtain ⟨hr9, rfl, rfl⟩ := @of_decide_eq_true _ (Classical.propDecidable _) hk9
                      have hr9 : r = zr0 ct.2.2.2.2.1 (zsg S.1.length ct.2.2.2.1.length (zthk 0 ct.2.2.2.1 (zprs [] [] ct.2.1 q.1 ct.2.2.1 h))) := by
                        rcases hr9 with hr9 | ⟨x9, -, hr9⟩
                        · exact hr9
                        · rw [hr9] at r1
                          have r1 : (2 : Nat) ≤ 1 := r1
                          omega
                      subst hr9
                      have hst : ((if (zr0 ct.2.2.2.2.1 (zsg S.1.length ct.2.2.2.1.length (zthk 0 ct.2.2.2.1 (zprs [] [] ct.2.1 q.1 ct.2.2.1 h)))).1 = 0 then some (zval e1 ad (zr0 ct.2.2.2.2.1 (zsg S.1.length ct.2.2.2.1.length (zthk 0 ct.2.2.2.1 (zprs [] [] ct.2.1 q.1 ct.2.2.1 h)))).2) else none : Option Value).toList ++ zst e1 ad q.2) = zst e1 ad (ct.2.2.2.2.1.toList.map (zsb (zsg S.1.length ct.2.2.2.1.length (zthk 0 ct.2.2.2.1 (zprs [] [] ct.2.1 q.1 ct.2.2.1 h)))) ++ q.2) := by
                        cases ct.2.2.2.2.1 with
                        | none => rfl
                        | some a => rfl
                      rw [hst]
                      rw [Nat.add_assoc oc nc, Nat.add_assoc os ns]
                      refine IH i n0 mu false (pc + 3) lc _ _ _ _ _ k b4 p ev s m args below meth c m0 e0 n1 es e1 ws1 H1 locs1 ls oc os Mc Ms hat hsc (zI_st hi9 fun b hb => ?_) h0 h1 (zag_tr h2 ag h3) (Nat.le_trans h3 len) k3 k4 hoc hos hH
                      rcases List.mem_append.mp hb with hb | hb
                      · cases hrt : ct.2.2.2.2.1 with
                        | none => rw [hrt] at hb; cases hb
                        | some a =>
                          rw [hrt] at hb r2
                          rw [List.mem_singleton.mp hb]
                          exact (r2 rfl).2
                      · exact hi9.2.2.1 b hb
                    · unfold zk2 at hk9
                      obtain ⟨hr9, rfl, rfl⟩ := @of_decide_eq_true _ (Classical.propDecidable _) hk9
                      have hxm : x ∈ ct.2.2.2.2.2.2.2 := by
                        rcases hr9 with hr9 | ⟨x9, hm9, hr9⟩
                        · unfold zr0 at hr9
                          split at hr9 <;> cases hr9
                        · have hr9 : ((2, (x, 0, 0, 0)) : zOut) = (2, (x9, 0, 0, 0)) := hr9
                          have : x = x9 := by injection hr9 with _ hr9; injection hr9
                          rw [this]
                          exact hm9
                      have hbx := List.all_eq_true.mp bx x hxm
                      cases hfh : zfh (zhh i) pc x with
                      | none =>
                        rw [hfh] at hbx
                        simp only [Bool.and_eq_true, decide_eq_true_eq] at hbx
                        have hS9 := hi9.2.2.2.2.2.2.2.1
                        exact vx_out (fun z hz => by rw [hat.2.2.2.2.2.2.2.2.2.1, if_pos hbx.1] at hz; cases hz) hat.2.2.2.2.2.2.2.1 hce hcv hcl9 (fun t ht _ => ⟨⟨e1, _, _, ws1, x, hx3, rfl, hbx.2, zend_of hi9 h0 h1 (zag_tr h2 ag h3) (Nat.le_trans h3 len) (by rw [ht]; exact hi9.2.2.2.2.2.1)⟩, hS9.F ht⟩) hS9.2.2 (by omega) (by omega)
                      | some hp =>
                        rw [hfh] at hbx
                        simp only at hbx
                        cases ho2 : zopf (zopl i) hp with
                        | none => rw [ho2] at hbx; cases hbx
                        | some o2 =>
                          rw [ho2] at hbx
                          simp only at hbx
                          refine HT i pc hp x p l ev _ s m args below meth c H1 locs1 _ _ _ ls _ qq ce hat hfh hx3 hce hcv hcl9 ?_
                          by_cases h7 : o2.1 = 7
                          · rw [if_pos h7] at hbx
                            refine zk_hand hat hi9 (HV i hp o2 ho2).1 (Or.inl h7) fun ls' hi10 => ?_
                            rw [if_pos h7, Nat.add_assoc oc nc, Nat.add_assoc os ns]
                            exact IH i n0 mu false (hp + 1) _ [] _ _ _ _ k hbx p ev s m args below meth c m0 e0 n1 es e1 ws1 H1 locs1 ls' oc os Mc Ms hat hsc hi10 h0 h1 (zag_tr h2 ag h3) (Nat.le_trans h3 len) k3 k4 hoc hos hH
                          · rw [if_neg h7] at hbx
                            by_cases h8 : o2.1 = 8
                            · rw [if_pos h8] at hbx
                              refine zk_hand hat hi9 (HV i hp o2 ho2).1 (Or.inr h8) fun ls' hi10 => ?_
                              rw [if_neg h7, Nat.add_assoc oc nc, Nat.add_assoc os ns]
                              exact IH i n0 mu false (hp + 2) _ [] _ _ _ _ k hbx p ev s m args below meth c m0 e0 n1 es e1 ws1 H1 locs1 ls' oc os Mc Ms hat hsc hi10 h0 h1 (zag_tr h2 ag h3) (Nat.le_trans h3 len) k3 k4 hoc hos hH
                            · rw [if_neg h8] at hbx
                              cases hbx
                  | none =>
                    rw [hct] at hk
                    have hM := zmet_of (e := e) (ws := ws) k7 IH hk htg k6 hi.1 (fun b hb => hi.2.2.1 b (hin1 b hb)) hi.2.2.2.1 hi.2.2.2.2.1 hi.2.2.2.2.2.2.1 (zgc_pl hgc) (fun _ _ _ _ _ _ _ _ _ => zHc_none)
                    obtain ⟨ar, hrun⟩ := zrun hoc hos hat hi hgc hq hok hM c50
                    refine zk_call hrun hir (fun e1 h9 S9 ws1 r H1 locs1 r1 r2 hk9 ag len hi9 => ?_) (fun e1 h9 S9 ws1 x H1 locs1 qq ce hx3 hk9 ag len hi9 hce hcv hcl9 => ?_)
                    · by_cases hr0 : r.1 = 0
                      · simp only [hr0, if_true] at hk9
                        rw [if_pos hr0, Nat.add_assoc oc nc, Nat.add_assoc os ns]
                        exact IH i n0 mu false (pc + 3) lc (r.2 :: q.2) h9 S9 _ _ k hk9 p ev s m args below meth c m0 e0 n1 es e1 ws1 H1 locs1 ls oc os Mc Ms hat hsc (zI_cons hi9 (r2 hr0).2) h0 h1 (zag_tr h2 ag h3) (Nat.le_trans h3 len) k3 k4 hoc hos hH
                      · have hr1 : r.1 = 1 := by omega
                        simp only [hr1, if_true] at hk9
                        rw [if_neg hr0, Nat.add_assoc oc nc, Nat.add_assoc os ns]
                        exact IH i n0 mu false (pc + 3) lc q.2 h9 S9 _ _ k hk9 p ev s m args below meth c m0 e0 n1 es e1 ws1 H1 locs1 ls oc os Mc Ms hat hsc hi9 h0 h1 (zag_tr h2 ag h3) (Nat.le_trans h3 len) k3 k4 hoc hos hH
                    · have e20 : ¬ (2 : Nat) = 0 := by decide
                      have e21 : ¬ (2 : Nat) = 1 := by decide
                      simp only [e20, e21, if_false] at hk9
                      cases hfh : zfh (zhh i) pc x with
                      | none =>
                        rw [hfh] at hk9
                        simp only [Bool.and_eq_true, decide_eq_true_eq] at hk9
                        have hS9 := hi9.2.2.2.2.2.2.2.1
                        exact vx_out (fun z hz => by rw [hat.2.2.2.2.2.2.2.2.2.1, if_pos hk9.1] at hz; cases hz) hat.2.2.2.2.2.2.2.1 hce hcv hcl9 (fun t ht _ => ⟨⟨e1, _, _, ws1, x, hx3, rfl, hk9.2, zend_of hi9 h0 h1 (zag_tr h2 ag h3) (Nat.le_trans h3 len) (by rw [ht]; exact hi9.2.2.2.2.2.1)⟩, hS9.F ht⟩) hS9.2.2 (by omega) (by omega)
                      | some hp =>
                        rw [hfh] at hk9
                        simp only at hk9
                        cases ho2 : zopf (zopl i) hp with
                        | none => rw [ho2] at hk9; cases hk9
                        | some o2 =>
                          rw [ho2] at hk9
                          simp only at hk9
                          refine HT i pc hp x p l ev _ s m args below meth c H1 locs1 _ _ _ ls _ qq ce hat hfh hx3 hce hcv hcl9 ?_
                          by_cases h7 : o2.1 = 7
                          · rw [if_pos h7] at hk9
                            refine zk_hand hat hi9 (HV i hp o2 ho2).1 (Or.inl h7) fun ls' hi10 => ?_
                            rw [if_pos h7, Nat.add_assoc oc nc, Nat.add_assoc os ns]
                            exact IH i n0 mu false (hp + 1) _ [] _ _ _ _ k hk9 p ev s m args below meth c m0 e0 n1 es e1 ws1 H1 locs1 ls' oc os Mc Ms hat hsc hi10 h0 h1 (zag_tr h2 ag h3) (Nat.le_trans h3 len) k3 k4 hoc hos hH
                          · rw [if_neg h7] at hk9
                            by_cases h8 : o2.1 = 8
                            · rw [if_pos h8] at hk9
                              refine zk_hand hat hi9 (HV i hp o2 ho2).1 (Or.inr h8) fun ls' hi10 => ?_
                              rw [if_neg h7, Nat.add_assoc oc nc, Nat.add_assoc os ns]
                              exact IH i n0 mu false (hp + 2) _ [] _ _ _ _ k hk9 p ev s m args below meth c m0 e0 n1 es e1 ws1 H1 locs1 ls' oc os Mc Ms hat hsc hi10 h0 h1 (zag_tr h2 ag h3) (Nat.le_trans h3 len) k3 k4 hoc hos hH
                            · rw [if_neg h8] at hk9
                              cases hk9
              · rw [if_neg c50] at hk
                cases hs : zsucc rc (G.1 i) (G.2.1 i) i pc o lc st h S with
                | none => rw [hs] at hk; cases hk
                | some L =>
                  rw [hs] at hk
                  exact zsucc_ok (R := zrM G i Mc Ms) hrl hsc hat.1 hat.2.1 hat.2.2.1 hat.2.2.2.1 hat.2.2.2.2.1 hcl hat.2.2.2.2.2.1 v1 hs hi fun t ht e' ws' H' locs' ls' ag len hi' => IH i n0 mu false t.1 t.2.1 t.2.2.1 t.2.2.2.1 t.2.2.2.2 nc ns k (List.all_eq_true.mp hk t ht) p ev s m args below meth c m0 e0 n1 es e' ws' H' locs' ls' oc os Mc Ms hat hsc hi' h0 h1 (zag_tr h2 ag h3) (Nat.le_trans h3 len) hnc hns hoc hos hH
end ZS
end
section
/-! ===== contracts of all methods that have patterns, out of checks that a program decides ===== -/
section ZS
variable {l : Launch} {D : va_G} {cy : Nat → ClassId} {ad : Nat → Nat} {A : Nat → Prop} {sa : Nat → Nat} {G : zCf} {rul rc : Nat → List zI}
/-- a method's pattern is checked: from its entry -/
def zCE (G : zCf) (rul : Nat → List zI) (n j : Nat) (ct : zCt) : Bool := zchk G rul ct.1 n j (some ct.2.2.2.1.length) none false 0 (zent 0 ct.2.1) [] ct.2.2.1 (ct.2.2.2.1, [], []) 0 0 (zkp ct) && ct.2.1.all (fun a => decide (¬ a.1 = 1)) && decide (ct.2.1.length ≤ zmaxL j) && zpn j && decide (¬ j = 119)
/-- .. and from each of its loops' heads -/
def zCV (cu : zCu) (m0 mc ms : Nat) : Bool := znn cu.2.2.1 cu.2.2.2.1 && cu.2.2.2.1.1.all (fun q => decide (q.2.2.1 = 0 ∨ q.2.2.2.1 < cu.2.2.1.length)) && decide (m0 ≤ cu.2.2.1.length) && decide (cu.2.2.2.2.1 ≤ mc) && decide (cu.2.2.2.2.2.1 ≤ ms)
def zCU (G : zCf) (rul : Nat → List zI) (n j : Nat) (ct : zCt) (pc : Nat) (cu : zCu) : Bool := zchk G rul ct.1 n j (some ct.2.2.2.1.length) (some cu.2.2.2.1) true pc cu.1 [] cu.2.1 (cu.2.2.1, cu.2.2.2.2.2.2, []) cu.2.2.2.2.1 cu.2.2.2.2.2.1 (zkp ct) && zCV cu ct.2.2.2.1.length (G.2.2.1 j) (G.2.2.2.1 j)
theorem zCV_ok {cu : zCu} {m0 mc ms : Nat} (h : zCV cu m0 mc ms = true) : znn cu.2.2.1 cu.2.2.2.1 = true ∧ (∀ q ∈ cu.2.2.2.1.1, zwf cu.2.2.1.length q.2) ∧ m0 ≤ cu.2.2.1.length ∧ cu.2.2.2.2.1 ≤ mc ∧ cu.2.2.2.2.2.1 ≤ ms := by
  unfold zCV at h
  simp only [Bool.and_eq_true, decide_eq_true_eq] at h
  obtain ⟨⟨⟨⟨h1, h2⟩, h3⟩, h4⟩, h5⟩ := h
  exact ⟨h1, fun q hq => (show q.2.2.1 = 0 ∨ q.2.2.2.1 < cu.2.2.1.length from of_decide_eq_true (List.all_eq_true.mp h2 q hq)), h3, h4, h5⟩
/-- the heads of a method, by their measure -/
theorem zheads {bd : Nat} {i : Nat} {k : zK} {m0 : Nat} {e0 : Nat → Int} (IH : ∀ n, zSnd l D cy ad A sa G rul rc bd n)
    (hU : ∀ (pc : Nat) (cu : zCu), G.2.2.2.2.2 i pc = some cu → (∃ n : Nat, zchk G rc bd n i (some m0) (some cu.2.2.2.1) true pc cu.1 [] cu.2.1 (cu.2.2.1, cu.2.2.2.2.2.2, []) cu.2.2.2.2.1 cu.2.2.2.2.2.1 k = true) ∧ zCV cu m0 (G.2.2.1 i) (G.2.2.2.1 i) = true)
    {p : Program} {ev : Env} {s : State} {m : MethodId} {args : Array Value} {below : List Frame} {meth : Method} {c : Code} (hat : zAt D cy A sa i p s m args meth c) (hni : ¬ i = 119) :
    ∀ (N : Nat) (pc : Nat) (cu : zCu) (ec : Nat → Int) (ws : va_W) (H : Heap) (locs : List Loc) (ls : Array Slot), G.2.2.2.2.2 i pc = some cu → zInv rul D cy ad A (zmaxL i) s.heap ec cu.1 [] cu.2.1 (cu.2.2.1, cu.2.2.2.2.2.2, []) ws H locs ls → zag m0 e0 ec → (zmu ec cu.2.2.2.1.1 + cu.2.2.2.1.2).toNat = N →
      W p l ev (zrM G i (G.2.2.1 i) (G.2.2.2.1 i)) s m args below meth c H locs (0 + cu.2.2.2.2.1) (0 + cu.2.2.2.2.2.1) (vx_MQ below (zQk rul D cy ad A k m0 e0) (zXk rul D cy ad A k m0 e0) args s (G.2.2.1 i) (G.2.2.2.1 i) A) (F0 m pc ls []) := by
  intro N
  induction N using Nat.strongRecOn with
  | ind N ih =>
    intro pc cu ec ws H locs ls hcu hi hag hN
    obtain ⟨⟨n, hk⟩, hcv⟩ := hU pc cu hcu
    obtain ⟨hnn, hwf, hlen, hc0, hs0⟩ := zCV_ok hcv
    refine IH n i (some m0) (some cu.2.2.2.1) true pc cu.1 [] cu.2.1 (cu.2.2.1, cu.2.2.2.2.2.2, []) _ _ k hk p ev s m args below meth c m0 e0 cu.2.2.1.length ec ec ws H locs ls 0 0 _ _ hat (fun q => absurd q hni) hi hag hlen (zag_rf _ _) (Nat.le_refl _) hc0 hs0 (Nat.le_of_eq (Nat.zero_add _)) (Nat.le_of_eq (Nat.zero_add _)) ?_
    intro m' hm'
    cases hm'
    refine ⟨rfl, fun u hu q hq => by cases hu; exact hwf q hq, fun pc' cu' ec' ws' H' locs' ls' hcu' hi' hag' hlen' hmu' => ?_⟩
    have h1 := znn_ok hi.1.1 hnn
    obtain ⟨hnn', -, -, -, -⟩ := zCV_ok (hU pc' cu' hcu').2
    have h2 := znn_ok hi'.1.1 hnn'
    have h3 := hmu' cu.2.2.2.1 rfl
    exact ih _ (by omega) pc' cu' ec' ws' H' locs' ls' hcu' hi' hag' rfl
/-- one head, whose round takes some of the room each time -/
theorem zheadL {bd n : Nat} {i pc : Nat} {cu : zCu} {k : zK} {e0 : Nat → Int} {Mc Ms : Nat} (IH : ∀ n, zSnd l D cy ad A sa G rul rc bd n) (hcu : G.2.2.2.2.2 i pc = some cu) (hone : ∀ (pc' : Nat) (cu' : zCu), G.2.2.2.2.2 i pc' = some cu' → pc' = pc)
    (hk : zchk G rc bd n i (some 0) (some cu.2.2.2.1) true pc cu.1 [] cu.2.1 (cu.2.2.1, cu.2.2.2.2.2.2, []) 0 0 k = true) (hcv : zCV cu 0 (G.2.2.1 i) (G.2.2.2.1 i) = true) (hcc : cu.2.2.2.2.1 = G.2.2.1 i) (hss : cu.2.2.2.2.2.1 = G.2.2.2.1 i)
    {p : Program} {ev : Env} {s : State} {m : MethodId} {args : Array Value} {below : List Frame} {meth : Method} {c : Code} (hat : zAt D cy A sa i p s m args meth c) (hsc : i = 119 → zSc rul ad A s) :
    ∀ (N : Nat) (oc os : Nat) (ec : Nat → Int) (ws : va_W) (H : Heap) (locs : List Loc) (ls : Array Slot), oc + G.2.2.1 i * (N + 1) ≤ Mc → os + G.2.2.2.1 i * (N + 1) ≤ Ms → zInv rul D cy ad A (zmaxL i) s.heap ec cu.1 [] cu.2.1 (cu.2.2.1, cu.2.2.2.2.2.2, []) ws H locs ls → (zmu ec cu.2.2.2.1.1 + cu.2.2.2.1.2).toNat = N →
      W p l ev (zrM G i Mc Ms) s m args below meth c H locs oc os (vx_MQ below (zQk rul D cy ad A k 0 e0) (zXk rul D cy ad A k 0 e0) args s Mc Ms A) (F0 m pc ls []) := by
  intro N
  induction N using Nat.strongRecOn with
  | ind N ih =>
    intro oc os ec ws H locs ls hoc hos hi hN
    obtain ⟨hnn, hwf, hlen, hc0, hs0⟩ := zCV_ok hcv
    have hm1 : G.2.2.1 i ≤ G.2.2.1 i * (N + 1) := Nat.le_mul_of_pos_right _ (Nat.succ_pos _)
    have hm2 : G.2.2.2.1 i ≤ G.2.2.2.1 i * (N + 1) := Nat.le_mul_of_pos_right _ (Nat.succ_pos _)
    refine IH n i (some 0) (some cu.2.2.2.1) true pc cu.1 [] cu.2.1 (cu.2.2.1, cu.2.2.2.2.2.2, []) 0 0 k hk p ev s m args below meth c 0 e0 cu.2.2.1.length ec ec ws H locs ls oc os Mc Ms hat hsc hi (fun v hv => absurd hv (Nat.not_lt_zero v)) (Nat.zero_le _) (zag_rf _ _) (Nat.le_refl _) (Nat.zero_le _) (Nat.zero_le _) (by omega) (by omega) ?_
    intro m' hm'
    cases hm'
    refine ⟨rfl, fun u hu q hq => by cases hu; exact hwf q hq, fun pc' cu' ec' ws' H' locs' ls' hcu' hi' hag' hlen' hmu' => ?_⟩
    have hpc := hone pc' cu' hcu'
    subst hpc
    have hcc' : cu' = cu := Option.some.inj (hcu'.symm.trans hcu)
    subst hcc'
    have h1 := znn_ok hi.1.1 hnn
    have h2 := znn_ok hi'.1.1 hnn
    have h3 := hmu' cu'.2.2.2.1 rfl
    obtain ⟨N', hN'⟩ : ∃ N', N' = (zmu ec' cu'.2.2.2.1.1 + cu'.2.2.2.1.2).toNat := ⟨_, rfl⟩
    have hlt : N' + 1 ≤ N := by omega
    have hl1 := Nat.mul_le_mul_left (G.2.2.1 i) hlt
    have hl2 := Nat.mul_le_mul_left (G.2.2.2.1 i) hlt
    rw [Nat.mul_succ] at hoc hos
    rw [hcc, hss]
    exact ih N' (by omega) (oc + G.2.2.1 i) (os + G.2.2.2.1 i) ec' ws' H' locs' ls' (by omega) (by omega) hi' hN'.symm
theorem zmets (hrl : ∀ r, r < 100 → rc r = rul r) (hl : l.stackTraces = false) (HV : zOK) (hcl : zCl) (HT : zCatch D cy A sa) (HE : ∀ (j : Nat) (ct : zCt), G.2.2.2.2.1 j = some ct → ∃ n, zCE G rc n j ct = true) (HU : ∀ (j : Nat) (ct : zCt) (pc : Nat) (cu : zCu), G.2.2.2.2.1 j = some ct → G.2.2.2.2.2 j pc = some cu → ∃ n, zCU G rc n j ct pc cu = true) :
    ∀ (r : Nat) (j : Nat) (ct : zCt), G.2.2.2.2.1 j = some ct → ct.1 = r → zMetC l D cy ad A sa G rul j ct := by
  intro r
  induction r using Nat.strongRecOn with
  | ind r ih =>
    intro j ct hct hr e0 ws hs hw hwa hR hD
    obtain ⟨n, hE⟩ := HE j ct hct
    unfold zCE at hE
    simp only [Bool.and_eq_true, decide_eq_true_eq] at hE
    obtain ⟨⟨⟨⟨hk, htg⟩, hlen⟩, hpl⟩, hni⟩ := hE
    have htg : ∀ a ∈ ct.2.1, ¬ a.1 = 1 := fun a ha => of_decide_eq_true (List.all_eq_true.mp htg a ha)
    have IH := zsound (l := l) (D := D) (cy := cy) (ad := ad) (A := A) (sa := sa) (G := G) (rul := rul) (rc := rc) (bd := ct.1) hrl hl HV hcl (fun j' ct' h' hlt => ih ct'.1 (by omega) j' ct' h' rfl) HT
    refine zmet_of (S := (ct.2.2.2.1, [], [])) (n0 := some ct.2.2.2.1.length) hni (IH n) hk htg hlen ⟨hs, fun q hq => (nomatch hq), fun q hq => (nomatch hq)⟩ hwa hw hR hD hpl ?_
    intro p ev s m args below meth c hat m' hm'
    cases hm'
    refine ⟨rfl, fun u hu => (nomatch hu), fun pc cu ec ws' H locs ls hcu hi hag hln _ => ?_⟩
    refine zheads (e0 := e0) IH (fun pc' cu' hcu' => ?_) hat hni _ pc cu ec ws' H locs ls hcu hi hag rfl
    obtain ⟨n9, hU9⟩ := HU j ct pc' cu' hct hcu'
    unfold zCU at hU9
    simp only [Bool.and_eq_true] at hU9
    exact ⟨⟨n9, hU9.1⟩, hU9.2⟩
end ZS
end
section
/-! ===== rooms, patterns, heads: found by program (wip/tools/gencfg.py), checked below ===== -/
def zRul (r : Nat) : List zI := match r with
  | 0 => [zfull]
  | 1 => [(0, 3), zfull, zfull, zfull, zfull, zfull, zfull, zfull, zfull, (0, 3), (0, 400), (0, 400), (0, 400)]
  | 2 => [(0, 400)]
  | 3 => [(0, 3)]
  | 4 => [(0, 400)]
  | 5 => [(0, 100)]
  | _ => []
def zHp (v0 v1 v2 v3 v4 v5 v6 v7 v8 v9 v10 v11 v12 v13 v14 v15 v16 v17 v18 v19 v20 v21 v22 v23 v24 v25 v26 v27 v28 v29 v30 v31 v32 v33 v34 v35 v36 v37 v38 v39 v40 v41 v42 v43 : Nat) : List zC := [(0, 3, 0, 0, [(2, 0, 1, 0), (2, 0, 16, 0), (2, 0, 20, 0), (2, 0, 29, 0), (2, 0, 30, 0), (2, 0, 31, 0), (0, 1, v0, 0), (0, 1, v1, 0), (0, 1, v2, 0), (0, 1, v3, 0), (0, 1, v4, 0), (0, 1, v5, 0)]),
  (0, 0, 0, 0, [(0, 1, v6, 0), (2, 0, 2, 0), (2, 0, 3, 0), (2, 0, 4, 0), (2, 0, 5, 0), (2, 0, 6, 0), (2, 0, 7, 0), (2, 0, 8, 0), (2, 0, 9, 0), (2, 0, 10, 0), (2, 0, 11, 0), (2, 0, 12, 0)]),
  (2, 0, 401, 3, []),
  (2, 0, 401, 0, []),
  (2, 0, 401, 0, []),
  (2, 0, 401, 0, []),
  (2, 0, 401, 0, []),
  (2, 0, 401, 0, []),
  (2, 0, 401, 0, []),
  (2, 0, 401, 0, []),
  (2, 0, 401, 0, []),
  (2, 0, 401, 3, []),
  (3, 3, 3, 0, [(2, 0, 13, 0), (2, 0, 14, 0), (2, 0, 15, 0)]),
  (2, 0, 401, 4, []),
  (2, 0, 401, 4, []),
  (2, 0, 401, 4, []),
  (0, 2, 0, 0, [(0, 1, v7, 0), (0, 1, v8, 0), (2, 0, 17, 0), (2, 0, 18, 0), (2, 0, 19, 0)]),
  (2, 0, 401, 0, []),
  (2, 0, 401, 0, []),
  (2, 0, 401, 0, []),
  (3, 2, 4, 0, [(2, 0, 21, 0), (2, 0, 23, 0), (2, 0, 25, 0), (2, 0, 27, 0)]),
  (0, 1, 0, 0, [(0, 1, v9, 0), (0, 1, v10, 0), (2, 0, 22, 0), (0, 1, v11, 0), (0, 1, v12, 0)]),
  (2, 0, 100, 0, []),
  (0, 1, 0, 0, [(0, 1, v13, 0), (0, 1, v14, 0), (2, 0, 24, 0), (0, 1, v15, 0), (0, 1, v16, 0)]),
  (2, 0, 100, 0, []),
  (0, 1, 0, 0, [(0, 1, v17, 0), (0, 1, v18, 0), (2, 0, 26, 0), (0, 1, v19, 0), (0, 1, v20, 0)]),
  (2, 0, 100, 0, []),
  (0, 1, 0, 0, [(0, 1, v21, 0), (0, 1, v22, 0), (2, 0, 28, 0), (0, 1, v23, 0), (0, 1, v24, 0)]),
  (2, 0, 100, 0, []),
  (2, 0, 8, 0, []),
  (1, 0, 4, 0, [(0, 1, v35, 0), (0, 1, v36, 0), (0, 1, v37, 0), (0, 1, v38, 0)]),
  (2, 0, 3, 4, []),
  (0, 4, 0, 0, [(2, 0, 33, 0), (0, 1, v25, 0), (2, 0, 34, 0), (0, 1, v26, 0), (0, 1, v27, 0), (0, 1, v28, 0), (0, 1, v29, 0), (0, 1, v30, 0), (0, 1, v31, 0), (0, 1, v32, 0), (2, 0, 35, 0), (2, 0, 36, 0), (2, 0, 37, 0), (2, 0, 38, 0), (2, 0, 39, 0), (2, 0, 40, 0), (2, 0, 41, 0), (0, 1, v33, 0), (0, 1, v34, 0)]),
  (2, 0, 5200, 1, []),
  (2, 0, 5200, 1, []),
  (2, 0, 8, 0, []),
  (2, 0, 4, 5, []),
  (2, 0, 4, 0, []),
  (1, 0, 4, 0, [(0, 1, v35, 0), (0, 1, v36, 0), (0, 1, v37, 0), (0, 1, v38, 0)]),
  (2, 0, 400, 0, []),
  (1, 0, 4, 0, [(0, 1, v39, 0), (0, 1, v40, 0), (0, 1, v41, 0), (0, 1, v42, 0)]),
  (2, 0, 3, 2, [(0, 1, v33, 0)]),
  (4, 1, 1, 0, [(1, 1, v43, 0)])]
def zHB : List zC := zHp 0 1 2 3 4 5 6 7 8 9 10 11 12 13 14 15 16 17 18 19 20 21 22 23 24 25 26 27 28 29 30 31 32 33 34 35 36 37 38 39 40 41 42 43
def zIB : List zI := [(0, 3), zfull, (0, 1), zfull, zfull, zfull, (0, 400), (0, 400), zfull, (0, 100), zfull, (0, 100), (0, 99), (0, 100), zfull, (0, 100), (0, 99), (0, 100), zfull, (0, 100), (0, 99), (0, 100), zfull, (0, 100), (0, 99), (0, 400), (0, 400), zfull, zfull, zfull, zfull, zfull, (0, 1), (0, 3), zfull, (1, 20), (1, 20), (1, 20), (1, 20), (0, 512), (0, 512), (0, 512), (0, 512), zfull]
def zct1 : zCt := (4, [(2, 0, 0, 0), (0, 1, 44, 0), (0, 1, 45, 0), (0, 1, 46, 0), (0, 1, 47, 0), (0, 1, 48, 0)], zHB, zIB ++ [zfull, zfull, zfull, zfull, zfull], (some (0, 1, 74, 0)), (zHp 49 50 51 52 53 54 55 56 57 58 59 60 61 62 63 64 65 66 67 68 69 70 71 72 73 25 26 27 28 29 30 31 32 33 34 35 36 37 38 39 40 41 42 43), zIB ++ [zfull, zfull, zfull, zfull, zfull, (0, 3), zfull, (0, 1), zfull, zfull, zfull, (0, 400), (0, 400), zfull, (0, 100), zfull, (0, 100), (0, 99), (0, 100), zfull, (0, 100), (0, 99), (0, 100), zfull, (0, 100), (0, 99), (0, 100), zfull, (0, 100), (0, 99), zfull], [0, 2])
def zct2 : zCt := (1, [(2, 0, 0, 0), (0, 1, 44, 0)], zHB, zIB ++ [zfull], (some (0, 1, 70, 0)), (zHp 45 46 47 48 49 50 51 52 53 54 55 56 57 58 59 60 61 62 63 64 65 66 67 68 69 25 26 27 28 29 30 31 32 33 34 35 36 37 38 39 40 41 42 43), zIB ++ [zfull, (0, 3), zfull, (0, 1), zfull, zfull, zfull, (0, 400), (0, 400), zfull, (0, 100), zfull, (0, 100), (0, 99), (0, 100), zfull, (0, 100), (0, 99), (0, 100), zfull, (0, 100), (0, 99), (0, 100), zfull, (0, 100), (0, 99), zfull], [0, 1])
def zct3 : zCt := (5, [(2, 0, 0, 0), (0, 1, 44, 0), (0, 1, 45, 0), (0, 1, 46, 0)], zHB, zIB ++ [zfull, zfull, zfull], (some (0, 1, 72, 0)), (zHp 47 48 49 50 51 52 53 54 55 56 57 58 59 60 61 62 63 64 65 66 67 68 69 70 71 25 26 27 28 29 30 31 32 33 34 35 36 37 38 39 40 41 42 43), zIB ++ [zfull, zfull, zfull, (0, 3), zfull, (0, 1), zfull, zfull, zfull, (0, 400), (0, 400), zfull, (0, 100), zfull, (0, 100), (0, 99), (0, 100), zfull, (0, 100), (0, 99), (0, 100), zfull, (0, 100), (0, 99), (0, 100), zfull, (0, 100), (0, 99), zfull], [0])
def zct4 : zCt := (5, [(2, 0, 0, 0), (0, 1, 44, 0), (0, 1, 45, 0)], zHB, zIB ++ [zfull, zfull], (some (0, 1, 71, 0)), (zHp 46 47 48 49 50 51 52 53 54 55 56 57 58 59 60 61 62 63 64 65 66 67 68 69 70 25 26 27 28 29 30 31 32 33 34 35 36 37 38 39 40 41 42 43), zIB ++ [zfull, zfull, (0, 3), zfull, (0, 1), zfull, zfull, zfull, (0, 400), (0, 400), zfull, (0, 100), zfull, (0, 100), (0, 99), (0, 100), zfull, (0, 100), (0, 99), (0, 100), zfull, (0, 100), (0, 99), (0, 100), zfull, (0, 100), (0, 99), zfull], [0])
def zct5 : zCt := (4, [(2, 0, 0, 0), (0, 1, 44, 0), (0, 1, 45, 0)], zHB, zIB ++ [zfull, zfull], (some (0, 1, 71, 0)), (zHp 46 47 48 49 50 51 52 53 54 55 56 57 58 59 60 61 62 63 64 65 66 67 68 69 70 25 26 27 28 29 30 31 32 33 34 35 36 37 38 39 40 41 42 43), zIB ++ [zfull, zfull, (0, 3), zfull, (0, 1), zfull, zfull, zfull, (0, 400), (0, 400), zfull, (0, 100), zfull, (0, 100), (0, 99), (0, 100), zfull, (0, 100), (0, 99), (0, 100), zfull, (0, 100), (0, 99), (0, 100), zfull, (0, 100), (0, 99), (0, 1)], [0])
def zct6 : zCt := (4, [(2, 0, 0, 0), (0, 1, 44, 0), (0, 1, 45, 0), (0, 1, 46, 0)], zHB, zIB ++ [zfull, zfull, zfull], (some (0, 1, 72, 0)), (zHp 47 48 49 50 51 52 53 54 55 56 57 58 59 60 61 62 63 64 65 66 67 68 69 70 71 25 26 27 28 29 30 31 32 33 34 35 36 37 38 39 40 41 42 43), zIB ++ [zfull, zfull, zfull, (0, 3), zfull, (0, 1), zfull, zfull, zfull, (0, 400), (0, 400), zfull, (0, 100), zfull, (0, 100), (0, 99), (0, 100), zfull, (0, 100), (0, 99), (0, 100), zfull, (0, 100), (0, 99), (0, 100), zfull, (0, 100), (0, 99), (0, 1)], [0])
def zct7 : zCt := (1, [(2, 0, 0, 0), (0, 1, 44, 0), (0, 1, 45, 0), (0, 1, 46, 0)], zHB, zIB ++ [zfull, zfull, zfull], (some (0, 1, 72, 0)), (zHp 47 48 49 50 51 52 53 54 55 56 57 58 59 60 61 62 63 64 65 66 67 68 69 70 71 25 26 27 28 29 30 31 32 33 34 35 36 37 38 39 40 41 42 43), zIB ++ [zfull, zfull, zfull, (0, 3), zfull, (0, 1), zfull, zfull, zfull, (0, 400), (0, 400), zfull, (0, 100), zfull, (0, 100), (0, 99), (0, 100), zfull, (0, 100), (0, 99), (0, 100), zfull, (0, 100), (0, 99), (0, 100), zfull, (0, 100), (0, 99), (0, 1)], [0])
def zct8 : zCt := (4, [(2, 0, 0, 0), (0, 1, 44, 0)], zHB, zIB ++ [zfull], (some (0, 1, 70, 0)), (zHp 45 46 47 48 49 50 51 52 53 54 55 56 57 58 59 60 61 62 63 64 65 66 67 68 69 25 26 27 28 29 30 31 32 33 34 35 36 37 38 39 40 41 42 43), zIB ++ [zfull, (0, 3), zfull, (0, 1), zfull, zfull, zfull, (0, 400), (0, 400), zfull, (0, 100), zfull, (0, 100), (0, 99), (0, 100), zfull, (0, 100), (0, 99), (0, 100), zfull, (0, 100), (0, 99), (0, 100), zfull, (0, 100), (0, 99), zfull], [0])
def zct9 : zCt := (4, [(2, 0, 0, 0), (0, 1, 44, 0)], zHB, zIB ++ [zfull], (some (0, 1, 70, 0)), (zHp 45 46 47 48 49 50 51 52 53 54 55 56 57 58 59 60 61 62 63 64 65 66 67 68 69 25 26 27 28 29 30 31 32 33 34 35 36 37 38 39 40 41 42 43), zIB ++ [zfull, (0, 3), zfull, (0, 1), zfull, zfull, zfull, (0, 400), (0, 400), zfull, (0, 100), zfull, (0, 100), (0, 99), (0, 100), zfull, (0, 100), (0, 99), (0, 100), zfull, (0, 100), (0, 99), (0, 100), zfull, (0, 100), (0, 99), zfull], [0])
def zct10 : zCt := (3, [(2, 0, 0, 0)], zHB, zIB ++ [], (some (0, 1, 69, 0)), (zHp 44 45 46 47 48 49 50 51 52 53 54 55 56 57 58 59 60 61 62 63 64 65 66 67 68 25 26 27 28 29 30 31 32 33 34 35 36 37 38 39 40 41 42 43), zIB ++ [(0, 3), zfull, (0, 1), zfull, zfull, zfull, (0, 400), (0, 400), zfull, (0, 100), zfull, (0, 100), (0, 99), (0, 100), zfull, (0, 100), (0, 99), (0, 100), zfull, (0, 100), (0, 99), (0, 100), zfull, (0, 100), (0, 99), zfull], [])
def zct11 : zCt := (2, [(2, 0, 0, 0)], zHB, zIB ++ [], (some (0, 1, 69, 0)), (zHp 44 45 46 47 48 49 50 51 52 53 54 55 56 57 58 59 60 61 62 63 64 65 66 67 68 25 26 27 28 29 30 31 32 33 34 35 36 37 38 39 40 41 42 43), zIB ++ [(0, 3), zfull, (0, 1), zfull, zfull, zfull, (0, 400), (0, 400), zfull, (0, 100), zfull, (0, 100), (0, 99), (0, 100), zfull, (0, 100), (0, 99), (0, 100), zfull, (0, 100), (0, 99), (0, 100), zfull, (0, 100), (0, 99), zfull], [])
def zct13 : zCt := (1, [(2, 0, 0, 0), (0, 1, 44, 0), (0, 1, 45, 0)], zHB, zIB ++ [zfull, zfull], (some (0, 1, 71, 0)), (zHp 46 47 48 49 50 51 52 53 54 55 56 57 58 59 60 61 62 63 64 65 66 67 68 69 70 25 26 27 28 29 30 31 32 33 34 35 36 37 38 39 40 41 42 43), zIB ++ [zfull, zfull, (0, 3), zfull, (0, 1), zfull, zfull, zfull, (0, 400), (0, 400), zfull, (0, 100), zfull, (0, 100), (0, 99), (0, 100), zfull, (0, 100), (0, 99), (0, 100), zfull, (0, 100), (0, 99), (0, 100), zfull, (0, 100), (0, 99), zfull], [0])
def zct16 : zCt := (2, [(2, 0, 0, 0), (0, 1, 44, 0), (0, 1, 45, 0)], zHB, zIB ++ [zfull, zfull], (some (0, 1, 71, 0)), (zHp 46 47 48 49 50 51 52 53 54 55 56 57 58 59 60 61 62 63 64 65 66 67 68 69 70 25 26 27 28 29 30 31 32 33 34 35 36 37 38 39 40 41 42 43), zIB ++ [zfull, zfull, (0, 3), zfull, (0, 1), zfull, zfull, zfull, (0, 400), (0, 400), zfull, (0, 100), zfull, (0, 100), (0, 99), (0, 100), zfull, (0, 100), (0, 99), (0, 100), zfull, (0, 100), (0, 99), (0, 100), zfull, (0, 100), (0, 99), zfull], [0])
def zct17 : zCt := (3, [(2, 0, 0, 0), (0, 1, 44, 0), (0, 1, 45, 0)], zHB, zIB ++ [zfull, zfull], (some (0, 1, 71, 0)), (zHp 46 47 48 49 50 51 52 53 54 55 56 57 58 59 60 61 62 63 64 65 66 67 68 69 70 25 26 27 28 29 30 31 32 33 34 35 36 37 38 39 40 41 42 43), zIB ++ [zfull, zfull, (0, 3), zfull, (0, 1), zfull, zfull, zfull, (0, 400), (0, 400), zfull, (0, 100), zfull, (0, 100), (0, 99), (0, 100), zfull, (0, 100), (0, 99), (0, 100), zfull, (0, 100), (0, 99), (0, 100), zfull, (0, 100), (0, 99), zfull], [0])
def zct18 : zCt := (4, [(2, 0, 0, 0), (0, 1, 44, 0), (0, 1, 45, 0)], zHB, zIB ++ [zfull, zfull], (some (0, 1, 71, 0)), (zHp 46 47 48 49 50 51 52 53 54 55 56 57 58 59 60 61 62 63 64 65 66 67 68 69 70 25 26 27 28 29 30 31 32 33 34 35 36 37 38 39 40 41 42 43), zIB ++ [zfull, zfull, (0, 3), zfull, (0, 1), zfull, zfull, zfull, (0, 400), (0, 400), zfull, (0, 100), zfull, (0, 100), (0, 99), (0, 100), zfull, (0, 100), (0, 99), (0, 100), zfull, (0, 100), (0, 99), (0, 100), zfull, (0, 100), (0, 99), zfull], [0])
def zct19 : zCt := (3, [(2, 0, 0, 0), (0, 1, 44, 0)], zHB, zIB ++ [zfull], (some (0, 1, 70, 0)), (zHp 45 46 47 48 49 50 51 52 53 54 55 56 57 58 59 60 61 62 63 64 65 66 67 68 69 25 26 27 28 29 30 31 32 33 34 35 36 37 38 39 40 41 42 43), zIB ++ [zfull, (0, 3), zfull, (0, 1), zfull, zfull, zfull, (0, 400), (0, 400), zfull, (0, 100), zfull, (0, 100), (0, 99), (0, 100), zfull, (0, 100), (0, 99), (0, 100), zfull, (0, 100), (0, 99), (0, 100), zfull, (0, 100), (0, 99), zfull], [0])
def zct20 : zCt := (1, [(2, 0, 0, 0), (0, 1, 44, 0)], zHB, zIB ++ [zfull], (some (0, 1, 70, 0)), (zHp 45 46 47 48 49 50 51 52 53 54 55 56 57 58 59 60 61 62 63 64 65 66 67 68 69 25 26 27 28 29 30 31 32 33 34 35 36 37 38 39 40 41 42 43), zIB ++ [zfull, (0, 3), zfull, (0, 1), zfull, zfull, zfull, (0, 400), (0, 400), zfull, (0, 100), zfull, (0, 100), (0, 99), (0, 100), zfull, (0, 100), (0, 99), (0, 100), zfull, (0, 100), (0, 99), (0, 100), zfull, (0, 100), (0, 99), zfull], [0])
def zct27 : zCt := (2, [(2, 0, 0, 0), (0, 1, 44, 0)], zHB, zIB ++ [(0, 7)], (some (0, 1, 45, 0)), zHB, zIB ++ [(0, 7), (0, 1)], [])
def zct28 : zCt := (4, [(2, 0, 0, 0), (0, 1, 44, 0)], zHB, zIB ++ [(0, 3)], (some (0, 1, 45, 0)), zHB, zIB ++ [(0, 3), ((-1), 400)], [])
def zct29 : zCt := (1, [(2, 0, 0, 0), (0, 1, 44, 0), (0, 1, 45, 0), (0, 1, 46, 0)], zHB, zIB ++ [((-1), 400), zfull, zfull], (some (0, 1, 72, 0)), (zHp 47 48 49 50 51 52 53 54 55 56 57 58 59 60 61 62 63 64 65 66 67 68 69 70 71 25 26 27 28 29 30 31 32 33 34 35 36 37 38 39 40 41 42 43), zIB ++ [((-1), 400), zfull, zfull, (0, 3), zfull, (0, 1), zfull, zfull, zfull, (0, 400), (0, 400), zfull, (0, 100), zfull, (0, 100), (0, 99), (0, 100), zfull, (0, 100), (0, 99), (0, 100), zfull, (0, 100), (0, 99), (0, 100), zfull, (0, 100), (0, 99), ((-1), 400)], [])
def zct30 : zCt := (1, [(2, 0, 0, 0), (0, 1, 44, 0)], zHB, zIB ++ [(0, 400)], (some (0, 1, 45, 0)), zHB, zIB ++ [(0, 400), (0, 1)], [])
def zct31 : zCt := (2, [(2, 0, 0, 0), (0, 1, 44, 0)], zHB, zIB ++ [(0, 400)], none, (zHp 0 1 2 45 4 5 6 7 8 9 10 11 12 13 14 15 16 17 18 19 20 21 22 23 24 25 26 27 28 29 30 31 32 33 34 35 36 37 38 39 40 41 42 43), zIB ++ [(0, 400), zfull], [])
def zct32 : zCt := (2, [(2, 0, 0, 0), (0, 1, 44, 0)], zHB, zIB ++ [(0, 400)], (some (0, 1, 45, 0)), zHB, zIB ++ [(0, 400), zfull], [])
def zct33 : zCt := (3, [(2, 0, 0, 0)], zHB, zIB ++ [], none, (zHp 0 1 2 44 45 5 6 46 47 9 10 11 12 13 14 15 16 17 18 19 20 21 22 23 24 25 26 27 28 29 30 31 32 33 34 35 36 37 38 39 40 41 42 43), zIB ++ [zfull, zfull, (0, 400), zfull], [])
def zct34 : zCt := (2, [(2, 0, 0, 0)], zHB, zIB ++ [], none, (zHp 0 1 2 44 45 5 6 46 47 9 10 11 12 13 14 15 16 17 18 19 20 21 22 23 24 25 26 27 28 29 30 31 32 33 34 35 36 37 38 39 40 41 42 43), zIB ++ [zfull, zfull, (0, 400), zfull], [])
def zct44 : zCt := (1, [(2, 0, 32, 0), (0, 1, 44, 0)], zHB, zIB ++ [(1, 400)], (some (0, 1, 45, 0)), zHB, zIB ++ [(1, 400), (0, 3)], [])
def zct45 : zCt := (2, [(2, 0, 32, 0), (0, 1, 44, 0)], zHB, zIB ++ [(1, 400)], (some (0, 1, 45, 0)), zHB, zIB ++ [(1, 400), (0, 1)], [])
def zct46 : zCt := (1, [(2, 0, 32, 0), (0, 1, 44, 0), (0, 1, 45, 0)], zHB, zIB ++ [(1, 400), (1, 400)], (some (0, 1, 46, 0)), zHB, zIB ++ [(1, 400), (1, 400), (0, 1)], [])
def zct47 : zCt := (1, [(2, 0, 32, 0), (0, 1, 44, 0)], zHB, zIB ++ [(0, 3)], (some (0, 1, 45, 0)), zHB, zIB ++ [(0, 3), zfull], [])
def zct48 : zCt := (1, [(2, 0, 32, 0), (0, 1, 44, 0)], zHB, zIB ++ [zfull], (some (0, 1, 45, 0)), zHB, zIB ++ [zfull, zfull], [])
def zct49 : zCt := (1, [(2, 0, 32, 0)], zHB, zIB ++ [], (some (0, 1, 44, 0)), zHB, zIB ++ [zfull], [])
def zct50 : zCt := (2, [(2, 0, 32, 0)], zHB, zIB ++ [], none, (zHp 0 1 2 3 4 5 6 7 8 9 10 11 12 13 14 15 16 17 18 19 20 21 22 23 24 25 46 44 47 45 30 31 32 33 34 35 36 37 38 39 40 41 42 43), zIB ++ [zfull, zfull, (0, 400), zfull], [])
def zct51 : zCt := (3, [(2, 0, 32, 0)], zHB, zIB ++ [], none, (zHp 0 1 2 3 4 5 6 7 8 9 10 11 12 13 14 15 16 17 18 19 20 21 22 23 24 25 46 44 47 45 30 31 32 33 34 35 36 37 38 39 40 41 42 43), zIB ++ [zfull, zfull, (0, 400), zfull], [])
def zct52 : zCt := (4, [(2, 0, 32, 0), (0, 1, 44, 0), (0, 1, 45, 0), (0, 1, 46, 0), (0, 1, 47, 0), (0, 1, 48, 0)], zHB, zIB ++ [zfull, zfull, zfull, zfull, zfull], (some (0, 1, 59, 0)), (zHp 0 1 2 3 4 5 6 7 8 9 10 11 12 13 14 15 16 17 18 19 20 21 22 23 24 49 50 51 52 53 54 55 56 57 58 35 36 37 38 39 40 41 42 43), zIB ++ [zfull, zfull, zfull, zfull, zfull, (0, 400), (0, 400), zfull, zfull, zfull, zfull, zfull, (0, 1), (0, 3), zfull, zfull], [])
def zct53 : zCt := (1, [(2, 0, 32, 0), (0, 1, 44, 0)], zHB, zIB ++ [zfull], (some (0, 1, 55, 0)), (zHp 0 1 2 3 4 5 6 7 8 9 10 11 12 13 14 15 16 17 18 19 20 21 22 23 24 45 46 47 48 49 50 51 52 53 54 35 36 37 38 39 40 41 42 43), zIB ++ [zfull, (0, 400), (0, 400), zfull, zfull, zfull, zfull, zfull, (0, 1), (0, 3), zfull, zfull], [])
def zct54 : zCt := (3, [(2, 0, 32, 0), (0, 1, 44, 0)], zHB, zIB ++ [zfull], (some (0, 1, 45, 0)), zHB, zIB ++ [zfull, (0, 400)], [])
def zct60 : zCt := (1, [(2, 0, 32, 0), (0, 1, 44, 0)], zHB, zIB ++ [(1, 400)], (some (0, 1, 45, 0)), zHB, zIB ++ [(1, 400), (0, 1)], [])
def zct61 : zCt := (4, [(2, 0, 32, 0), (0, 1, 44, 0), (0, 1, 45, 0)], zHB, zIB ++ [zfull, zfull], (some (0, 1, 56, 0)), (zHp 0 1 2 3 4 5 6 7 8 9 10 11 12 13 14 15 16 17 18 19 20 21 22 23 24 46 47 48 49 50 51 52 53 54 55 35 36 37 38 39 40 41 42 43), zIB ++ [zfull, zfull, (0, 400), (0, 400), zfull, zfull, zfull, zfull, zfull, (0, 1), (0, 3), zfull, (0, 1)], [])
def zct62 : zCt := (4, [(2, 0, 32, 0), (0, 1, 44, 0), (0, 1, 45, 0), (0, 1, 46, 0)], zHB, zIB ++ [zfull, zfull, zfull], (some (0, 1, 57, 0)), (zHp 0 1 2 3 4 5 6 7 8 9 10 11 12 13 14 15 16 17 18 19 20 21 22 23 24 47 48 49 50 51 52 53 54 55 56 35 36 37 38 39 40 41 42 43), zIB ++ [zfull, zfull, zfull, (0, 400), (0, 400), zfull, zfull, zfull, zfull, zfull, (0, 1), (0, 3), zfull, (0, 1)], [])
def zct63 : zCt := (1, [(2, 0, 32, 0), (0, 1, 44, 0), (0, 1, 45, 0), (0, 1, 46, 0)], zHB, zIB ++ [zfull, zfull, zfull], (some (0, 1, 57, 0)), (zHp 0 1 2 3 4 5 6 7 8 9 10 11 12 13 14 15 16 17 18 19 20 21 22 23 24 47 48 49 50 51 52 53 54 55 56 35 36 37 38 39 40 41 42 43), zIB ++ [zfull, zfull, zfull, (0, 400), (0, 400), zfull, zfull, zfull, zfull, zfull, (0, 1), (0, 3), zfull, (0, 1)], [])
def zct64 : zCt := (4, [(2, 0, 32, 0), (0, 1, 44, 0)], zHB, zIB ++ [zfull], (some (0, 1, 55, 0)), (zHp 0 1 2 3 4 5 6 7 8 9 10 11 12 13 14 15 16 17 18 19 20 21 22 23 24 45 46 47 48 49 50 51 52 53 54 35 36 37 38 39 40 41 42 43), zIB ++ [zfull, (0, 400), (0, 400), zfull, zfull, zfull, zfull, zfull, (0, 1), (0, 3), zfull, zfull], [])
def zct65 : zCt := (4, [(2, 0, 32, 0), (0, 1, 44, 0)], zHB, zIB ++ [zfull], (some (0, 1, 55, 0)), (zHp 0 1 2 3 4 5 6 7 8 9 10 11 12 13 14 15 16 17 18 19 20 21 22 23 24 45 46 47 48 49 50 51 52 53 54 35 36 37 38 39 40 41 42 43), zIB ++ [zfull, (0, 400), (0, 400), zfull, zfull, zfull, zfull, zfull, (0, 1), (0, 3), zfull, zfull], [])
def zct66 : zCt := (3, [(2, 0, 32, 0)], zHB, zIB ++ [], (some (0, 1, 54, 0)), (zHp 0 1 2 3 4 5 6 7 8 9 10 11 12 13 14 15 16 17 18 19 20 21 22 23 24 44 45 46 47 48 49 50 51 52 53 35 36 37 38 39 40 41 42 43), zIB ++ [(0, 400), (0, 400), zfull, zfull, zfull, zfull, zfull, (0, 1), (0, 3), zfull, zfull], [])
def zct67 : zCt := (1, [(2, 0, 32, 0)], zHB, zIB ++ [], (some (0, 1, 54, 0)), (zHp 0 1 2 3 4 5 6 7 8 9 10 11 12 13 14 15 16 17 18 19 20 21 22 23 24 44 45 46 47 48 49 50 51 52 53 35 36 37 38 39 40 41 42 43), zIB ++ [(0, 400), (0, 400), zfull, zfull, zfull, zfull, zfull, (0, 1), (0, 3), zfull, zfull], [])
def zct69 : zCt := (1, [(2, 0, 32, 0), (0, 1, 44, 0), (0, 1, 45, 0)], zHB, zIB ++ [zfull, zfull], (some (0, 1, 56, 0)), (zHp 0 1 2 3 4 5 6 7 8 9 10 11 12 13 14 15 16 17 18 19 20 21 22 23 24 46 47 48 49 50 51 52 53 54 55 35 36 37 38 39 40 41 42 43), zIB ++ [zfull, zfull, (0, 400), (0, 400), zfull, zfull, zfull, zfull, zfull, (0, 1), (0, 3), zfull, zfull], [])
def zct72 : zCt := (2, [(2, 0, 32, 0), (0, 1, 44, 0), (0, 1, 45, 0)], zHB, zIB ++ [zfull, zfull], (some (0, 1, 56, 0)), (zHp 0 1 2 3 4 5 6 7 8 9 10 11 12 13 14 15 16 17 18 19 20 21 22 23 24 46 47 48 49 50 51 52 53 54 55 35 36 37 38 39 40 41 42 43), zIB ++ [zfull, zfull, (0, 400), (0, 400), zfull, zfull, zfull, zfull, zfull, (0, 1), (0, 3), zfull, zfull], [])
def zct73 : zCt := (3, [(2, 0, 32, 0), (0, 1, 44, 0), (0, 1, 45, 0)], zHB, zIB ++ [zfull, zfull], (some (0, 1, 56, 0)), (zHp 0 1 2 3 4 5 6 7 8 9 10 11 12 13 14 15 16 17 18 19 20 21 22 23 24 46 47 48 49 50 51 52 53 54 55 35 36 37 38 39 40 41 42 43), zIB ++ [zfull, zfull, (0, 400), (0, 400), zfull, zfull, zfull, zfull, zfull, (0, 1), (0, 3), zfull, zfull], [])
def zct74 : zCt := (3, [(2, 0, 32, 0), (0, 1, 44, 0), (0, 1, 45, 0)], zHB, zIB ++ [zfull, zfull], (some (0, 1, 56, 0)), (zHp 0 1 2 3 4 5 6 7 8 9 10 11 12 13 14 15 16 17 18 19 20 21 22 23 24 46 47 48 49 50 51 52 53 54 55 35 36 37 38 39 40 41 42 43), zIB ++ [zfull, zfull, (0, 400), (0, 400), zfull, zfull, zfull, zfull, zfull, (0, 1), (0, 3), zfull, zfull], [])
def zct75 : zCt := (2, [(2, 0, 32, 0), (0, 1, 44, 0)], zHB, zIB ++ [zfull], (some (0, 1, 55, 0)), (zHp 0 1 2 3 4 5 6 7 8 9 10 11 12 13 14 15 16 17 18 19 20 21 22 23 24 45 46 47 48 49 50 51 52 53 54 35 36 37 38 39 40 41 42 43), zIB ++ [zfull, (0, 400), (0, 400), zfull, zfull, zfull, zfull, zfull, (0, 1), (0, 3), zfull, zfull], [])
def zct76 : zCt := (2, [(2, 0, 32, 0), (0, 1, 44, 0)], zHB, zIB ++ [zfull], (some (0, 1, 55, 0)), (zHp 0 1 2 3 4 5 6 7 8 9 10 11 12 13 14 15 16 17 18 19 20 21 22 23 24 45 46 47 48 49 50 51 52 53 54 35 36 37 38 39 40 41 42 43), zIB ++ [zfull, (0, 400), (0, 400), zfull, zfull, zfull, zfull, zfull, (0, 1), (0, 3), zfull, zfull], [])
def zct84 : zCt := (2, [(2, 0, 1, 0), (0, 1, 44, 0), (0, 1, 45, 0), (0, 1, 46, 0)], zHB, zIB ++ [(0, 400), zfull, zfull], (some (0, 1, 47, 0)), zHB, zIB ++ [(0, 400), zfull, zfull, (0, 1)], [])
def zct85 : zCt := (1, [(2, 0, 1, 0), (0, 1, 44, 0)], zHB, zIB ++ [(0, 400)], (some (0, 1, 45, 0)), zHB, zIB ++ [(0, 400), (0, 3)], [])
def zct86 : zCt := (1, [(2, 0, 1, 0), (0, 1, 44, 0), (0, 1, 45, 0)], zHB, zIB ++ [(0, 400), (0, 400)], (some (0, 1, 46, 0)), zHB, zIB ++ [(0, 400), (0, 400), (0, 1)], [])
def zct88 : zCt := (3, [(2, 0, 1, 0), (0, 1, 44, 0), (0, 1, 45, 0), (0, 1, 46, 0)], zHB, zIB ++ [((-1), 400), zfull, zfull], (some (0, 1, 47, 0)), zHB, zIB ++ [((-1), 400), zfull, zfull, ((-1), 400)], [])
def zct89 : zCt := (1, [(2, 0, 1, 0), (0, 1, 44, 0), (0, 1, 45, 0)], zHB, zIB ++ [zfull, zfull], (some (0, 1, 46, 0)), zHB, zIB ++ [zfull, zfull, ((-1), 400)], [])
def zct90 : zCt := (1, [(2, 0, 1, 0), (0, 1, 44, 0)], zHB, zIB ++ [zfull], (some (0, 1, 45, 0)), zHB, zIB ++ [zfull, zfull], [])
def zct91 : zCt := (1, [(2, 0, 1, 0)], zHB, zIB ++ [], (some (0, 1, 44, 0)), zHB, zIB ++ [zfull], [])
def zct96 : zCt := (1, [(2, 0, 16, 0), (2, 0, 1, 0), (0, 1, 44, 0)], zHB, zIB ++ [zfull], none, (zHp 0 1 2 3 4 5 6 45 46 9 10 11 12 13 14 15 16 17 18 19 20 21 22 23 24 25 26 27 28 29 30 31 32 33 34 35 36 37 38 39 40 41 42 43), zIB ++ [zfull, (0, 400), zfull], [])
def zct97 : zCt := (1, [(2, 0, 16, 0), (2, 0, 1, 0)], zHB, zIB ++ [], none, (zHp 0 1 2 3 4 5 44 7 8 9 10 11 12 13 14 15 16 17 18 19 20 21 22 23 24 25 26 27 28 29 30 31 32 33 34 35 36 37 38 39 40 41 42 43), zIB ++ [(0, 400)], [])
def zcu4_41 : zCu := ([(0, (2, 0, 0, 0)), (1, (0, 1, 44, 0)), (2, (0, 1, 45, 0)), (3, (0, 1, 46, 0)), (4, (0, 1, 47, 0))], zHB, zIB ++ [(0, 7), zfull, ((-1), 400), (0, 4)], ([((-1), (0, 1, 47, 0))], 4), 1, 6, [])
def zcu8_11 : zCu := ([(0, (2, 0, 0, 0)), (1, (0, 1, 44, 0)), (2, (0, 1, 45, 0)), (3, (0, 1, 46, 0))], zHB, zIB ++ [zfull, zfull, (1, 401)], ([((-1), (0, 1, 46, 0))], 401), 1, 6, [])
def zcu9_25 : zCu := ([(0, (2, 0, 0, 0)), (2, (0, 1, 47, 0)), (3, (0, 1, 48, 0))], (zHp 0 45 2 46 4 5 6 7 8 9 10 11 12 13 14 15 16 17 18 19 20 21 22 23 24 25 26 27 28 29 30 31 32 33 34 35 36 37 38 39 40 41 42 43), zIB ++ [zfull, zfull, zfull, zfull, (1, 401)], ([((-1), (0, 1, 48, 0))], 401), 1, 6, [])
def zcu17_29 : zCu := ([(0, (2, 0, 0, 0)), (1, (0, 1, 44, 0)), (2, (0, 1, 45, 0)), (3, (0, 1, 46, 0)), (4, (0, 1, 47, 0))], zHB, zIB ++ [zfull, zfull, zfull, (1, 401)], ([((-1), (0, 1, 47, 0))], 401), 1, 6, [])
def zcu18_42 : zCu := ([(0, (2, 0, 0, 0)), (1, (0, 1, 44, 0)), (2, (0, 1, 45, 0)), (3, (0, 1, 46, 0)), (4, (0, 1, 47, 0))], zHB, zIB ++ [zfull, (0, 399), ((-1), 400), (0, 400)], ([((-1), (0, 1, 47, 0))], 400), 1, 6, [])
def zcu19_11 : zCu := ([(0, (2, 0, 0, 0)), (1, (0, 1, 44, 0)), (2, (0, 1, 45, 0)), (3, (0, 1, 46, 0))], zHB, zIB ++ [zfull, zfull, (1, 401)], ([((-1), (0, 1, 46, 0))], 401), 1, 6, [])
def zcu48_4 : zCu := ([(0, (2, 0, 32, 0)), (1, (0, 1, 44, 0)), (2, (0, 1, 45, 0)), (3, (0, 1, 46, 0))], zHB, zIB ++ [zfull, zfull, (1, 401)], ([((-1), (0, 1, 46, 0))], 401), 0, 0, [])
def zcu49_4 : zCu := ([(0, (2, 0, 32, 0)), (1, (0, 1, 44, 0)), (2, (0, 1, 45, 0))], zHB, zIB ++ [zfull, (1, 401)], ([((-1), (0, 1, 45, 0))], 401), 0, 0, [])
def zcu52_63 : zCu := ([(0, (2, 0, 32, 0)), (1, (0, 1, 44, 0)), (2, (0, 1, 45, 0)), (3, (0, 1, 46, 0)), (4, (0, 1, 47, 0)), (5, (0, 1, 48, 0)), (7, (0, 1, 50, 0))], (zHp 0 1 2 3 4 5 6 7 8 9 10 11 12 13 14 15 16 17 18 19 20 21 22 23 24 25 26 27 28 29 30 31 32 33 49 35 36 37 38 39 40 41 42 43), zIB ++ [(0, 3), zfull, zfull, zfull, zfull, zfull, (1, 401)], ([((-1), (0, 1, 50, 0))], 401), 0, 0, [])
def zcu54_4 : zCu := ([(0, (2, 0, 32, 0)), (1, (0, 1, 44, 0)), (2, (0, 1, 45, 0)), (3, (0, 1, 46, 0))], zHB, zIB ++ [zfull, (0, 400), (1, 401)], ([((-1), (0, 1, 46, 0))], 401), 0, 0, [])
def zcu64_26 : zCu := ([(0, (2, 0, 32, 0)), (1, (0, 1, 44, 0)), (2, (0, 1, 46, 0)), (3, (0, 1, 47, 0))], (zHp 0 1 2 3 4 5 6 7 8 9 10 11 12 13 14 15 16 17 18 19 20 21 22 23 24 25 26 27 28 29 30 31 32 33 45 35 36 37 38 39 40 41 42 43), zIB ++ [zfull, zfull, zfull, (1, 401)], ([((-1), (0, 1, 47, 0))], 401), 0, 0, [])
def zcu65_40 : zCu := ([(0, (2, 0, 32, 0)), (2, (0, 1, 47, 0)), (3, (0, 1, 48, 0))], (zHp 0 1 2 3 4 5 6 7 8 9 10 11 12 13 14 15 16 17 18 19 20 21 22 23 24 25 26 27 28 29 30 46 32 33 45 35 36 37 38 39 40 41 42 43), zIB ++ [zfull, zfull, zfull, zfull, (1, 401)], ([((-1), (0, 1, 48, 0))], 401), 0, 0, [])
def zcu67_46 : zCu := ([(0, (2, 0, 32, 0)), (1, (0, 1, 46, 0))], (zHp 0 1 2 3 4 5 6 7 8 9 10 11 12 13 14 15 16 17 18 19 20 21 22 23 24 45 26 27 28 29 30 31 32 33 44 35 36 37 38 39 40 41 42 43), zIB ++ [zfull, (0, 400), (1, 401)], ([((-1), (0, 1, 46, 0))], 401), 0, 0, [])
def zcu73_36 : zCu := ([(0, (2, 0, 32, 0)), (1, (0, 1, 44, 0)), (2, (0, 1, 45, 0)), (3, (0, 1, 47, 0)), (4, (0, 1, 48, 0))], (zHp 0 1 2 3 4 5 6 7 8 9 10 11 12 13 14 15 16 17 18 19 20 21 22 23 24 25 26 27 28 29 30 31 32 33 46 35 36 37 38 39 40 41 42 43), zIB ++ [zfull, zfull, zfull, zfull, (1, 401)], ([((-1), (0, 1, 48, 0))], 401), 0, 0, [])
def zcu74_24 : zCu := ([(0, (2, 0, 32, 0)), (1, (0, 1, 44, 0)), (2, (0, 1, 45, 0)), (3, (0, 1, 47, 0))], (zHp 0 1 2 3 4 5 6 7 8 9 10 11 12 13 14 15 16 17 18 19 20 21 22 23 24 25 26 27 28 29 30 31 32 33 46 35 36 37 38 39 40 41 42 43), zIB ++ [zfull, zfull, zfull, (1, 401)], ([((-1000), (0, 1, 47, 0))], 402000), 0, 0, [])
def zcu74_59 : zCu := ([(0, (2, 0, 32, 0)), (1, (0, 1, 44, 0)), (2, (0, 1, 45, 0)), (3, (0, 1, 47, 0)), (4, (0, 1, 48, 0)), (5, (0, 1, 49, 0))], (zHp 0 1 2 3 4 5 6 7 8 9 10 11 12 13 14 15 16 17 18 19 20 21 22 23 24 25 26 27 28 29 30 31 32 33 46 35 36 37 38 39 40 41 42 43), zIB ++ [zfull, zfull, zfull, (1, 400), zfull, (1, 401)], ([((-1000), (0, 1, 47, 0)), ((-1), (0, 1, 49, 0))], 401500), 0, 0, [])
def zcu75_26 : zCu := ([(0, (2, 0, 32, 0)), (1, (0, 1, 44, 0)), (2, (0, 1, 46, 0)), (3, (0, 1, 47, 0))], (zHp 0 1 2 3 4 5 6 7 8 9 10 11 12 13 14 15 16 17 18 19 20 21 22 23 24 25 26 27 28 29 30 31 32 33 45 35 36 37 38 39 40 41 42 43), zIB ++ [zfull, zfull, zfull, (1, 401)], ([((-1), (0, 1, 47, 0))], 401), 0, 0, [])
def zcu88_6 : zCu := ([(0, (2, 0, 1, 0)), (1, (0, 1, 44, 0)), (2, (0, 1, 45, 0)), (3, (0, 1, 46, 0)), (4, (0, 1, 47, 0)), (5, (0, 1, 48, 0))], zHB, zIB ++ [((-1), 400), zfull, zfull, ((-1), 400), (1, 401)], ([((-1), (0, 1, 48, 0))], 401), 0, 0, [])
def zcu89_8 : zCu := ([(0, (2, 0, 1, 0)), (1, (0, 1, 44, 0)), (2, (0, 1, 45, 0)), (3, (0, 1, 46, 0))], zHB, zIB ++ [zfull, zfull, (1, 401)], ([((-1), (0, 1, 46, 0))], 401), 0, 0, [])
def zcu90_4 : zCu := ([(0, (2, 0, 1, 0)), (1, (0, 1, 44, 0)), (2, (0, 1, 45, 0)), (3, (0, 1, 46, 0))], zHB, zIB ++ [zfull, zfull, (1, 401)], ([((-1), (0, 1, 46, 0))], 401), 0, 0, [])
def zcu91_4 : zCu := ([(0, (2, 0, 1, 0)), (1, (0, 1, 44, 0)), (2, (0, 1, 45, 0))], zHB, zIB ++ [zfull, (1, 401)], ([((-1), (0, 1, 45, 0))], 401), 0, 0, [])
def zcu97_10 : zCu := ([(0, (2, 0, 16, 0)), (1, (2, 0, 1, 0)), (2, (0, 1, 45, 0))], (zHp 0 1 2 3 4 5 44 7 8 9 10 11 12 13 14 15 16 17 18 19 20 21 22 23 24 25 26 27 28 29 30 31 32 33 34 35 36 37 38 39 40 41 42 43), zIB ++ [(0, 400), (1, 401)], ([((-1), (0, 1, 45, 0))], 401), 0, 0, [])
def zHL : List zC := (zHp 0 1 2 3 4 5 6 7 8 9 10 11 12 13 14 15 16 17 18 19 20 21 22 23 24 25 26 27 28 29 30 31 32 33 34 35 36 37 38 39 40 41 42 43)
def zcu119_23 : zCu := ([(0, (2, 0, 43, 0)), (1, (2, 0, 0, 0)), (2, (2, 0, 32, 0)), (3, (2, 0, 42, 0)), (4, (0, 1, 44, 0))], zHL, [(0, 3), zfull, (0, 1), zfull, zfull, zfull, (0, 400), (0, 400), zfull, (0, 100), zfull, (0, 100), (0, 99), (0, 100), zfull, (0, 100), (0, 99), (0, 100), zfull, (0, 100), (0, 99), (0, 100), zfull, (0, 100), (0, 99), (0, 400), (0, 400), zfull, zfull, zfull, zfull, zfull, (0, 1), (0, 3), zfull, (1, 20), (1, 20), (1, 20), (1, 20), (0, 512), (0, 512), (0, 512), (0, 512), zfull, (0, 3072)], ([((-1), (0, 1, 44, 0))], 3072), 4, 24, [((0, 1, 44, 0), (0, 6, 39, 0)), ((0, 1, 44, 0), (0, 6, 40, 0)), ((0, 1, 44, 0), (0, 6, 41, 0)), ((0, 1, 44, 0), (0, 6, 42, 0))])
def zrf (i : Nat) : Nat := match i with
  | 0 => 2
  | 1 => 7
  | 2 => 7
  | 3 => 7
  | 4 => 7
  | 5 => 7
  | 6 => 7
  | 7 => 7
  | 8 => 7
  | 9 => 7
  | 10 => 3
  | 11 => 2
  | 13 => 7
  | 14 => 7
  | 15 => 7
  | 16 => 7
  | 17 => 7
  | 18 => 7
  | 19 => 7
  | 20 => 7
  | 21 => 6
  | 23 => 1
  | 24 => 1
  | 25 => 1
  | 27 => 2
  | 28 => 4
  | 29 => 2
  | 31 => 1
  | 32 => 1
  | 33 => 3
  | 34 => 2
  | 35 => 1
  | 39 => 1
  | 40 => 1
  | 41 => 1
  | 44 => 1
  | 45 => 2
  | 46 => 1
  | 48 => 1
  | 49 => 1
  | 50 => 2
  | 51 => 3
  | 52 => 4
  | 53 => 2
  | 54 => 3
  | 55 => 4
  | 56 => 5
  | 57 => 5
  | 58 => 1
  | 59 => 1
  | 60 => 1
  | 61 => 4
  | 62 => 4
  | 63 => 2
  | 64 => 4
  | 65 => 4
  | 66 => 3
  | 67 => 2
  | 69 => 2
  | 70 => 2
  | 71 => 2
  | 72 => 2
  | 73 => 3
  | 74 => 3
  | 75 => 2
  | 76 => 1
  | 77 => 1
  | 78 => 1
  | 84 => 1
  | 87 => 3
  | 88 => 2
  | 90 => 1
  | 92 => 1
  | 93 => 1
  | 94 => 1
  | 95 => 1
  | 96 => 1
  | 97 => 1
  | 98 => 8
  | 99 => 8
  | 100 => 8
  | 101 => 8
  | 102 => 8
  | 103 => 8
  | 104 => 8
  | 105 => 8
  | 106 => 8
  | 107 => 8
  | 108 => 8
  | 109 => 8
  | 110 => 8
  | 111 => 8
  | 112 => 8
  | 113 => 8
  | 114 => 8
  | 119 => 11
  | _ => 0
def zrl (i : Nat) : Nat := match i with
  | 0 => 40
  | 1 => 110
  | 2 => 110
  | 3 => 114
  | 4 => 114
  | 5 => 110
  | 6 => 110
  | 7 => 110
  | 8 => 110
  | 9 => 110
  | 10 => 83
  | 11 => 44
  | 13 => 110
  | 14 => 110
  | 15 => 110
  | 16 => 110
  | 17 => 110
  | 18 => 110
  | 19 => 110
  | 20 => 110
  | 21 => 90
  | 23 => 22
  | 24 => 22
  | 25 => 22
  | 27 => 45
  | 28 => 93
  | 29 => 42
  | 31 => 22
  | 32 => 23
  | 33 => 83
  | 34 => 62
  | 35 => 20
  | 39 => 22
  | 40 => 22
  | 41 => 22
  | 44 => 22
  | 45 => 45
  | 46 => 22
  | 48 => 22
  | 49 => 22
  | 50 => 44
  | 51 => 66
  | 52 => 86
  | 53 => 43
  | 54 => 66
  | 55 => 90
  | 56 => 115
  | 57 => 115
  | 58 => 22
  | 59 => 23
  | 60 => 22
  | 61 => 86
  | 62 => 86
  | 63 => 44
  | 64 => 86
  | 65 => 86
  | 66 => 66
  | 67 => 45
  | 69 => 42
  | 70 => 42
  | 71 => 42
  | 72 => 45
  | 73 => 66
  | 74 => 66
  | 75 => 45
  | 76 => 23
  | 77 => 20
  | 78 => 22
  | 84 => 23
  | 87 => 71
  | 88 => 46
  | 90 => 22
  | 92 => 20
  | 93 => 21
  | 94 => 22
  | 95 => 20
  | 96 => 40
  | 97 => 22
  | 98 => 136
  | 99 => 131
  | 100 => 137
  | 101 => 139
  | 102 => 133
  | 103 => 134
  | 104 => 134
  | 105 => 133
  | 106 => 133
  | 107 => 133
  | 108 => 133
  | 109 => 133
  | 110 => 132
  | 111 => 135
  | 112 => 134
  | 113 => 134
  | 114 => 131
  | 119 => 396
  | _ => 0
def zmc (i : Nat) : Nat := match i with
  | 0 => 31
  | 1 => 3
  | 2 => 2
  | 3 => 1
  | 4 => 1
  | 5 => 1
  | 6 => 1
  | 7 => 1
  | 8 => 1
  | 9 => 1
  | 13 => 1
  | 14 => 1
  | 15 => 1
  | 16 => 1
  | 17 => 1
  | 18 => 1
  | 19 => 1
  | 20 => 1
  | 21 => 1
  | 35 => 9
  | 77 => 14
  | 92 => 1
  | 95 => 3
  | 98 => 3
  | 99 => 2
  | 100 => 1
  | 101 => 1
  | 102 => 1
  | 103 => 1
  | 104 => 1
  | 105 => 1
  | 106 => 1
  | 107 => 1
  | 108 => 1
  | 109 => 1
  | 110 => 1
  | 111 => 1
  | 112 => 1
  | 113 => 1
  | 114 => 1
  | 119 => 4
  | _ => 0
def zms (i : Nat) : Nat := match i with
  | 0 => 6875
  | 1 => 18
  | 2 => 12
  | 3 => 6
  | 4 => 6
  | 5 => 6
  | 6 => 6
  | 7 => 6
  | 8 => 6
  | 9 => 6
  | 13 => 6
  | 14 => 6
  | 15 => 6
  | 16 => 6
  | 17 => 6
  | 18 => 6
  | 19 => 6
  | 20 => 6
  | 21 => 6
  | 35 => 10827
  | 77 => 5216
  | 92 => 100
  | 95 => 1203
  | 98 => 18
  | 99 => 12
  | 100 => 6
  | 101 => 6
  | 102 => 6
  | 103 => 6
  | 104 => 6
  | 105 => 6
  | 106 => 6
  | 107 => 6
  | 108 => 6
  | 109 => 6
  | 110 => 6
  | 111 => 6
  | 112 => 6
  | 113 => 6
  | 114 => 6
  | 119 => 24
  | _ => 0
def zctr (j : Nat) : Option zCt := match j with
  | 1 => some zct1
  | 2 => some zct2
  | 3 => some zct3
  | 4 => some zct4
  | 5 => some zct5
  | 6 => some zct6
  | 7 => some zct7
  | 8 => some zct8
  | 9 => some zct9
  | 10 => some zct10
  | 11 => some zct11
  | 13 => some zct13
  | 16 => some zct16
  | 17 => some zct17
  | 18 => some zct18
  | 19 => some zct19
  | 20 => some zct20
  | 27 => some zct27
  | 28 => some zct28
  | 29 => some zct29
  | 30 => some zct30
  | 31 => some zct31
  | 32 => some zct32
  | 33 => some zct33
  | 34 => some zct34
  | 44 => some zct44
  | 45 => some zct45
  | 46 => some zct46
  | 47 => some zct47
  | 48 => some zct48
  | 49 => some zct49
  | 50 => some zct50
  | 51 => some zct51
  | 52 => some zct52
  | 53 => some zct53
  | 54 => some zct54
  | 60 => some zct60
  | 61 => some zct61
  | 62 => some zct62
  | 63 => some zct63
  | 64 => some zct64
  | 65 => some zct65
  | 66 => some zct66
  | 67 => some zct67
  | 69 => some zct69
  | 72 => some zct72
  | 73 => some zct73
  | 74 => some zct74
  | 75 => some zct75
  | 76 => some zct76
  | 84 => some zct84
  | 85 => some zct85
  | 86 => some zct86
  | 88 => some zct88
  | 89 => some zct89
  | 90 => some zct90
  | 91 => some zct91
  | 96 => some zct96
  | 97 => some zct97
  | _ => none
def zcut (i pc : Nat) : Option zCu := match i, pc with
  | 4, 41 => some zcu4_41
  | 8, 11 => some zcu8_11
  | 9, 25 => some zcu9_25
  | 17, 29 => some zcu17_29
  | 18, 42 => some zcu18_42
  | 19, 11 => some zcu19_11
  | 48, 4 => some zcu48_4
  | 49, 4 => some zcu49_4
  | 52, 63 => some zcu52_63
  | 54, 4 => some zcu54_4
  | 64, 26 => some zcu64_26
  | 65, 40 => some zcu65_40
  | 67, 46 => some zcu67_46
  | 73, 36 => some zcu73_36
  | 74, 24 => some zcu74_24
  | 74, 59 => some zcu74_59
  | 75, 26 => some zcu75_26
  | 88, 6 => some zcu88_6
  | 89, 8 => some zcu89_8
  | 90, 4 => some zcu90_4
  | 91, 4 => some zcu91_4
  | 97, 10 => some zcu97_10
  | 119, 23 => some zcu119_23
  | _, _ => none
def zG : zCf := (zrf, zrl, zmc, zms, zctr, zcut)
end
section
/-! ===== the listing is the code's ===== -/
def zokm (i : Nat) : Bool := (zopl i).all (fun q => zgd i q.1 q.2 && (if q.2.1 = 50 ∨ q.2.1 = 51 then zgc i q.1 q.2 else true) && (if q.2.1 = 36 then zgt i q.1 q.2 else true))
theorem zopf_mem {l : List (Nat × zO)} {pc : Nat} {o : zO} (h : zopf l pc = some o) : (pc, o) ∈ l := by
  induction l with
  | nil => cases h
  | cons q r ih =>
    unfold zopf at h
    by_cases hq : q.1 = pc
    · rw [if_pos hq] at h
      cases h
      rw [← hq]
      exact List.mem_cons_self
    · rw [if_neg hq] at h
      exact List.mem_cons_of_mem _ (ih h)
theorem zokm_ok {i : Nat} (h : zokm i = true) (pc : Nat) (o : zO) (ho : zopf (zopl i) pc = some o) : zgd i pc o = true ∧ (o.1 = 50 ∨ o.1 = 51 → zgc i pc o = true) ∧ (o.1 = 36 → zgt i pc o = true) := by
  have := List.all_eq_true.mp h _ (zopf_mem ho)
  simp only [Bool.and_eq_true] at this
  refine ⟨this.1.1, fun hc => ?_, fun hc => ?_⟩
  · have h2 := this.1.2
    rw [if_pos hc] at h2
    exact h2
  · have h2 := this.2
    rw [if_pos hc] at h2
    exact h2
end
section
/-! ===== the listing is the code's, by method ===== -/
theorem zok1 : zokm 1 = true := by decide +kernel
theorem zok9 : zokm 9 = true := by decide +kernel
theorem zok17 : zokm 17 = true := by decide +kernel
theorem zok20 : zokm 20 = true := by decide +kernel
theorem zok29 : zokm 29 = true := by decide +kernel
theorem zok36 : zokm 36 = true := by decide +kernel
theorem zok38 : zokm 38 = true := by decide +kernel
theorem zok40 : zokm 40 = true := by decide +kernel
theorem zok42 : zokm 42 = true := by decide +kernel
theorem zok46 : zokm 46 = true := by decide +kernel
theorem zok51 : zokm 51 = true := by decide +kernel
theorem zok54 : zokm 54 = true := by decide +kernel
theorem zok56 : zokm 56 = true := by decide +kernel
theorem zok58 : zokm 58 = true := by decide +kernel
theorem zok60 : zokm 60 = true := by decide +kernel
theorem zok62 : zokm 62 = true := by decide +kernel
theorem zok66 : zokm 66 = true := by decide +kernel
theorem zok67 : zokm 67 = true := by decide +kernel
theorem zok71 : zokm 71 = true := by decide +kernel
theorem zok75 : zokm 75 = true := by decide +kernel
theorem zok85 : zokm 85 = true := by decide +kernel
theorem zok90 : zokm 90 = true := by decide +kernel
theorem zok91 : zokm 91 = true := by decide +kernel
theorem zok96 : zokm 96 = true := by decide +kernel
theorem zok102 : zokm 102 = true := by decide +kernel
theorem zok106 : zokm 106 = true := by decide +kernel
theorem zok110 : zokm 110 = true := by decide +kernel
theorem zok114 : zokm 114 = true := by decide +kernel
end
section
/-! ===== the listing is the code's, by method ===== -/
theorem zok2 : zokm 2 = true := by decide +kernel
theorem zok6 : zokm 6 = true := by decide +kernel
theorem zok10 : zokm 10 = true := by decide +kernel
theorem zok11 : zokm 11 = true := by decide +kernel
theorem zok14 : zokm 14 = true := by decide +kernel
theorem zok18 : zokm 18 = true := by decide +kernel
theorem zok21 : zokm 21 = true := by decide +kernel
theorem zok23 : zokm 23 = true := by decide +kernel
theorem zok24 : zokm 24 = true := by decide +kernel
theorem zok26 : zokm 26 = true := by decide +kernel
theorem zok31 : zokm 31 = true := by decide +kernel
theorem zok34 : zokm 34 = true := by decide +kernel
theorem zok44 : zokm 44 = true := by decide +kernel
theorem zok49 : zokm 49 = true := by decide +kernel
theorem zok52 : zokm 52 = true := by decide +kernel
theorem zok68 : zokm 68 = true := by decide +kernel
theorem zok69 : zokm 69 = true := by decide +kernel
theorem zok73 : zokm 73 = true := by decide +kernel
theorem zok78 : zokm 78 = true := by decide +kernel
theorem zok84 : zokm 84 = true := by decide +kernel
theorem zok88 : zokm 88 = true := by decide +kernel
theorem zok94 : zokm 94 = true := by decide +kernel
theorem zok99 : zokm 99 = true := by decide +kernel
theorem zok101 : zokm 101 = true := by decide +kernel
theorem zok105 : zokm 105 = true := by decide +kernel
theorem zok108 : zokm 108 = true := by decide +kernel
theorem zok111 : zokm 111 = true := by decide +kernel
theorem zok115 : zokm 115 = true := by decide +kernel
end
section
/-! ===== the listing is the code's, by method ===== -/
theorem zok3 : zokm 3 = true := by decide +kernel
theorem zok5 : zokm 5 = true := by decide +kernel
theorem zok8 : zokm 8 = true := by decide +kernel
theorem zok15 : zokm 15 = true := by decide +kernel
theorem zok19 : zokm 19 = true := by decide +kernel
theorem zok22 : zokm 22 = true := by decide +kernel
theorem zok25 : zokm 25 = true := by decide +kernel
theorem zok28 : zokm 28 = true := by decide +kernel
theorem zok32 : zokm 32 = true := by decide +kernel
theorem zok45 : zokm 45 = true := by decide +kernel
theorem zok48 : zokm 48 = true := by decide +kernel
theorem zok50 : zokm 50 = true := by decide +kernel
theorem zok55 : zokm 55 = true := by decide +kernel
theorem zok63 : zokm 63 = true := by decide +kernel
theorem zok65 : zokm 65 = true := by decide +kernel
theorem zok72 : zokm 72 = true := by decide +kernel
theorem zok76 : zokm 76 = true := by decide +kernel
theorem zok79 : zokm 79 = true := by decide +kernel
theorem zok81 : zokm 81 = true := by decide +kernel
theorem zok82 : zokm 82 = true := by decide +kernel
theorem zok86 : zokm 86 = true := by decide +kernel
theorem zok97 : zokm 97 = true := by decide +kernel
theorem zok103 : zokm 103 = true := by decide +kernel
theorem zok107 : zokm 107 = true := by decide +kernel
theorem zok112 : zokm 112 = true := by decide +kernel
theorem zok116 : zokm 116 = true := by decide +kernel
end
section
/-! ===== the listing is the code's, by method ===== -/
theorem zok4 : zokm 4 = true := by decide +kernel
theorem zok7 : zokm 7 = true := by decide +kernel
theorem zok12 : zokm 12 = true := by decide +kernel
theorem zok13 : zokm 13 = true := by decide +kernel
theorem zok16 : zokm 16 = true := by decide +kernel
theorem zok27 : zokm 27 = true := by decide +kernel
theorem zok30 : zokm 30 = true := by decide +kernel
theorem zok33 : zokm 33 = true := by decide +kernel
theorem zok37 : zokm 37 = true := by decide +kernel
theorem zok39 : zokm 39 = true := by decide +kernel
theorem zok41 : zokm 41 = true := by decide +kernel
theorem zok43 : zokm 43 = true := by decide +kernel
theorem zok47 : zokm 47 = true := by decide +kernel
theorem zok53 : zokm 53 = true := by decide +kernel
theorem zok57 : zokm 57 = true := by decide +kernel
theorem zok59 : zokm 59 = true := by decide +kernel
theorem zok61 : zokm 61 = true := by decide +kernel
theorem zok64 : zokm 64 = true := by decide +kernel
theorem zok70 : zokm 70 = true := by decide +kernel
theorem zok74 : zokm 74 = true := by decide +kernel
theorem zok80 : zokm 80 = true := by decide +kernel
theorem zok83 : zokm 83 = true := by decide +kernel
theorem zok87 : zokm 87 = true := by decide +kernel
theorem zok89 : zokm 89 = true := by decide +kernel
theorem zok93 : zokm 93 = true := by decide +kernel
theorem zok98 : zokm 98 = true := by decide +kernel
theorem zok100 : zokm 100 = true := by decide +kernel
theorem zok104 : zokm 104 = true := by decide +kernel
theorem zok109 : zokm 109 = true := by decide +kernel
theorem zok113 : zokm 113 = true := by decide +kernel
theorem zok117 : zokm 117 = true := by decide +kernel
end
section
/-! ===== the law's listing is its code's ===== -/
def zokl (l : List (Nat × zO)) : Bool := l.all (fun q => zgd 119 q.1 q.2 && (if q.2.1 = 50 ∨ q.2.1 = 51 then zgc 119 q.1 q.2 else true) && (if q.2.1 = 36 then zgt 119 q.1 q.2 else true))
theorem zok119_0 : zokl ((zo119.drop 0).take 70) = true := by decide +kernel
theorem zok119_1 : zokl ((zo119.drop 70).take 70) = true := by decide +kernel
theorem zok119_2 : zokl ((zo119.drop 140).take 70) = true := by decide +kernel
theorem zok119_3 : zokl ((zo119.drop 210).take 70) = true := by decide +kernel
theorem zok119_4 : zokl ((zo119.drop 280).take 70) = true := by decide +kernel
theorem zok119_5 : zokl ((zo119.drop 350).take 70) = true := by decide +kernel
theorem zok119_6 : zokl ((zo119.drop 420).take 70) = true := by decide +kernel
theorem zok119_7 : zokl ((zo119.drop 490).take 70) = true := by decide +kernel
end
section
/-! ===== the walks ===== -/
theorem zE1 : zCE zG zRul 117 1 zct1 = true := by decide +kernel
theorem zE2 : zCE zG zRul 59 2 zct2 = true := by decide +kernel
theorem zE3 : zCE zG zRul 34 3 zct3 = true := by decide +kernel
theorem zE4 : zCE zG zRul 28 4 zct4 = true := by decide +kernel
theorem zE5 : zCE zG zRul 47 5 zct5 = true := by decide +kernel
theorem zE6 : zCE zG zRul 51 6 zct6 = true := by decide +kernel
theorem zE7 : zCE zG zRul 43 7 zct7 = true := by decide +kernel
theorem zE8 : zCE zG zRul 23 8 zct8 = true := by decide +kernel
theorem zE9 : zCE zG zRul 24 9 zct9 = true := by decide +kernel
theorem zE10 : zCE zG zRul 13 10 zct10 = true := by decide +kernel
theorem zE11 : zCE zG zRul 31 11 zct11 = true := by decide +kernel
theorem zE13 : zCE zG zRul 31 13 zct13 = true := by decide +kernel
theorem zE16 : zCE zG zRul 28 16 zct16 = true := by decide +kernel
theorem zE17 : zCE zG zRul 24 17 zct17 = true := by decide +kernel
theorem zE18 : zCE zG zRul 32 18 zct18 = true := by decide +kernel
theorem zE19 : zCE zG zRul 23 19 zct19 = true := by decide +kernel
theorem zE20 : zCE zG zRul 57 20 zct20 = true := by decide +kernel
theorem zE27 : zCE zG zRul 20 27 zct27 = true := by decide +kernel
theorem zE28 : zCE zG zRul 48 28 zct28 = true := by decide +kernel
theorem zE29 : zCE zG zRul 58 29 zct29 = true := by decide +kernel
theorem zE30 : zCE zG zRul 25 30 zct30 = true := by decide +kernel
end
section
/-! ===== the walks ===== -/
theorem zE31 : zCE zG zRul 34 31 zct31 = true := by decide +kernel
theorem zE32 : zCE zG zRul 47 32 zct32 = true := by decide +kernel
theorem zE33 : zCE zG zRul 14 33 zct33 = true := by decide +kernel
theorem zE34 : zCE zG zRul 39 34 zct34 = true := by decide +kernel
theorem zE44 : zCE zG zRul 100 44 zct44 = true := by decide +kernel
theorem zE45 : zCE zG zRul 28 45 zct45 = true := by decide +kernel
theorem zE46 : zCE zG zRul 45 46 zct46 = true := by decide +kernel
theorem zE47 : zCE zG zRul 57 47 zct47 = true := by decide +kernel
theorem zE48 : zCE zG zRul 13 48 zct48 = true := by decide +kernel
theorem zE49 : zCE zG zRul 13 49 zct49 = true := by decide +kernel
theorem zE50 : zCE zG zRul 42 50 zct50 = true := by decide +kernel
theorem zE51 : zCE zG zRul 14 51 zct51 = true := by decide +kernel
theorem zE52 : zCE zG zRul 40 52 zct52 = true := by decide +kernel
theorem zE53 : zCE zG zRul 76 53 zct53 = true := by decide +kernel
theorem zE54 : zCE zG zRul 13 54 zct54 = true := by decide +kernel
theorem zE60 : zCE zG zRul 29 60 zct60 = true := by decide +kernel
theorem zE61 : zCE zG zRul 58 61 zct61 = true := by decide +kernel
theorem zE62 : zCE zG zRul 70 62 zct62 = true := by decide +kernel
theorem zE63 : zCE zG zRul 52 63 zct63 = true := by decide +kernel
theorem zE64 : zCE zG zRul 24 64 zct64 = true := by decide +kernel
theorem zE65 : zCE zG zRul 29 65 zct65 = true := by decide +kernel
end
section
/-! ===== the walks ===== -/
theorem zE66 : zCE zG zRul 16 66 zct66 = true := by decide +kernel
theorem zE67 : zCE zG zRul 21 67 zct67 = true := by decide +kernel
theorem zE69 : zCE zG zRul 33 69 zct69 = true := by decide +kernel
theorem zE72 : zCE zG zRul 40 72 zct72 = true := by decide +kernel
theorem zE73 : zCE zG zRul 29 73 zct73 = true := by decide +kernel
theorem zE74 : zCE zG zRul 24 74 zct74 = true := by decide +kernel
theorem zE75 : zCE zG zRul 24 75 zct75 = true := by decide +kernel
theorem zE76 : zCE zG zRul 26 76 zct76 = true := by decide +kernel
theorem zE84 : zCE zG zRul 28 84 zct84 = true := by decide +kernel
theorem zE85 : zCE zG zRul 80 85 zct85 = true := by decide +kernel
theorem zE86 : zCE zG zRul 38 86 zct86 = true := by decide +kernel
theorem zE88 : zCE zG zRul 13 88 zct88 = true := by decide +kernel
theorem zE89 : zCE zG zRul 13 89 zct89 = true := by decide +kernel
theorem zE90 : zCE zG zRul 13 90 zct90 = true := by decide +kernel
theorem zE91 : zCE zG zRul 13 91 zct91 = true := by decide +kernel
theorem zE96 : zCE zG zRul 49 96 zct96 = true := by decide +kernel
theorem zE97 : zCE zG zRul 15 97 zct97 = true := by decide +kernel
theorem zU4_41 : zCU zG zRul 32 4 zct4 41 zcu4_41 = true := by decide +kernel
theorem zU8_11 : zCU zG zRul 43 8 zct8 11 zcu8_11 = true := by decide +kernel
theorem zU9_25 : zCU zG zRul 35 9 zct9 25 zcu9_25 = true := by decide +kernel
theorem zU17_29 : zCU zG zRul 37 17 zct17 29 zcu17_29 = true := by decide +kernel
end
section
/-! ===== the walks ===== -/
theorem zU18_42 : zCU zG zRul 25 18 zct18 42 zcu18_42 = true := by decide +kernel
theorem zU19_11 : zCU zG zRul 38 19 zct19 11 zcu19_11 = true := by decide +kernel
theorem zU48_4 : zCU zG zRul 34 48 zct48 4 zcu48_4 = true := by decide +kernel
theorem zU49_4 : zCU zG zRul 28 49 zct49 4 zcu49_4 = true := by decide +kernel
theorem zU52_63 : zCU zG zRul 164 52 zct52 63 zcu52_63 = true := by decide +kernel
theorem zU54_4 : zCU zG zRul 42 54 zct54 4 zcu54_4 = true := by decide +kernel
theorem zU64_26 : zCU zG zRul 52 64 zct64 26 zcu64_26 = true := by decide +kernel
theorem zU65_40 : zCU zG zRul 61 65 zct65 40 zcu65_40 = true := by decide +kernel
theorem zU67_46 : zCU zG zRul 49 67 zct67 46 zcu67_46 = true := by decide +kernel
theorem zU73_36 : zCU zG zRul 37 73 zct73 36 zcu73_36 = true := by decide +kernel
theorem zU74_24 : zCU zG zRul 27 74 zct74 24 zcu74_24 = true := by decide +kernel
theorem zU74_59 : zCU zG zRul 35 74 zct74 59 zcu74_59 = true := by decide +kernel
theorem zU75_26 : zCU zG zRul 71 75 zct75 26 zcu75_26 = true := by decide +kernel
theorem zU88_6 : zCU zG zRul 39 88 zct88 6 zcu88_6 = true := by decide +kernel
theorem zU89_8 : zCU zG zRul 33 89 zct89 8 zcu89_8 = true := by decide +kernel
theorem zU90_4 : zCU zG zRul 31 90 zct90 4 zcu90_4 = true := by decide +kernel
theorem zU91_4 : zCU zG zRul 22 91 zct91 4 zcu91_4 = true := by decide +kernel
theorem zU97_10 : zCU zG zRul 57 97 zct97 10 zcu97_10 = true := by decide +kernel
end
section
/-! ===== the law's walk, case by case ===== -/
/-- the law's end -/
def zlk : zK := fun r _ _ => decide (r = (0, (0, 0, 0, 1)))
def zstp1 (G : zCf) (rc : Nat → List zI) (i : Nat) (go : Bool) (t : zT) : Option (List zT) := match (if go then none else G.2.2.2.2.2 i t.1) with
  | some _ => none
  | none => match zopf (zopl i) t.1 with
    | none => none
    | some o => if o.1 = 32 then none else if o.1 = 33 then none else if o.1 = 36 then none else if o.1 = 50 ∨ o.1 = 51 then none else zsucc rc (G.1 i) (G.2.1 i) i t.1 o t.2.1 t.2.2.1 t.2.2.2.1 t.2.2.2.2
def zchT (G : zCf) (rc : Nat → List zI) (bd n i : Nat) (n0 : Option Nat) (mu : Option zM) (go : Bool) (nc ns : Nat) (k : zK) (t : zT) : Bool := zchk G rc bd n i n0 mu go t.1 t.2.1 t.2.2.1 t.2.2.2.1 t.2.2.2.2 nc ns k
theorem zstp1_ok {G : zCf} {rc : Nat → List zI} {bd n i nc ns : Nat} {n0 : Option Nat} {mu : Option zM} {go : Bool} {k : zK} {t : zT} {L : List zT} (h : zstp1 G rc i go t = some L) (hL : ∀ t' ∈ L, zchT G rc bd n i n0 mu false nc ns k t' = true) : zchT G rc bd (n + 1) i n0 mu go nc ns k t = true := by
  unfold zchT zchk
  unfold zstp1 at h
  split at h
  · cases h
  · rename_i hc
    rw [hc]
    simp only
    split at h
    · cases h
    · rename_i o ho
      rw [ho]
      simp only
      by_cases c1 : o.1 = 32
      · rw [if_pos c1] at h; cases h
      · rw [if_neg c1] at h ⊢
        by_cases c2 : o.1 = 33
        · rw [if_pos c2] at h; cases h
        · rw [if_neg c2] at h ⊢
          by_cases c3 : o.1 = 36
          · rw [if_pos c3] at h; cases h
          · rw [if_neg c3] at h ⊢
            by_cases c4 : o.1 = 50 ∨ o.1 = 51
            · rw [if_pos c4] at h; cases h
            · rw [if_neg c4] at h ⊢
              rw [h]
              exact List.all_eq_true.mpr hL
def zstpN (G : zCf) (rc : Nat → List zI) (i : Nat) : Nat → Bool → zT → Option (List zT)
  | 0, _, t => some [t]
  | m + 1, go, t => match zstp1 G rc i go t with
    | some [t'] => zstpN G rc i m false t'
    | some L => if m = 0 then some L else none
    | none => none
theorem zstpN_ok {G : zCf} {rc : Nat → List zI} {bd n i nc ns : Nat} {n0 : Option Nat} {mu : Option zM} {k : zK} : ∀ {m : Nat} {go : Bool} {t : zT} {L : List zT}, ¬ m = 0 → zstpN G rc i m go t = some L → (∀ t' ∈ L, zchT G rc bd n i n0 mu false nc ns k t' = true) → zchT G rc bd (n + m) i n0 mu go nc ns k t = true
  | 0, _, _, _, h0, _, _ => absurd rfl h0
  | 1, go, t, L, _, h, hL => by
    unfold zstpN at h
    cases hs : zstp1 G rc i go t with
    | none => rw [hs] at h; cases h
    | some L1 =>
      rw [hs] at h
      refine zstp1_ok hs ?_
      match L1, h with
      | [], h => intro t' ht; cases ht
      | [t1], h =>
        unfold zstpN at h
        cases h
        exact hL
      | a :: b :: r, h =>
        simp only [if_true] at h
        cases h
        exact hL
  | m + 2, go, t, L, _, h, hL => by
    unfold zstpN at h
    cases hs : zstp1 G rc i go t with
    | none => rw [hs] at h; cases h
    | some L1 =>
      rw [hs] at h
      refine zstp1_ok (n := n + (m + 1)) hs ?_
      match L1, h with
      | [], h => intro t' ht; cases ht
      | [t1], h =>
        intro t' ht
        rw [List.mem_singleton.mp ht]
        exact zstpN_ok (m := m + 1) (by omega) h hL
      | a :: b :: r, h => simp at h
def zL0 : zT := (23, zcu119_23.1, [], zcu119_23.2.1, (zcu119_23.2.2.1, zcu119_23.2.2.2.2.2.2, []))
def zL1 : List zT := (zstpN zG zRul 119 6 true zL0).getD []
def zLx : zT := zL1.getD 0 zL0
def zLy : zT := zL1.getD 1 zL0
def zL2 : List zT := (zstpN zG zRul 119 6 false zLy).getD []
theorem zL1_eq : (zstpN zG zRul 119 6 true zL0).isSome = true := by decide +kernel
theorem zL1_len : zL1.length = 2 := by decide +kernel
theorem zL2_eq : (zstpN zG zRul 119 6 false zLy).isSome = true := by decide +kernel
theorem zL2_len : zL2.length = 21 := by decide +kernel
theorem zLx_ok : zchT zG zRul 99 150 119 (some 0) (some zcu119_23.2.2.2.1) false 0 0 zlk zLx = true := by decide +kernel
end
section
/-! ===== the law's walk, case by case ===== -/
theorem zL_0 : zchT zG zRul 99 144 119 (some 0) (some zcu119_23.2.2.2.1) false 0 0 zlk (zL2.getD 0 zL0) = true := by decide +kernel
theorem zL_1 : zchT zG zRul 99 144 119 (some 0) (some zcu119_23.2.2.2.1) false 0 0 zlk (zL2.getD 1 zL0) = true := by decide +kernel
theorem zL_2 : zchT zG zRul 99 144 119 (some 0) (some zcu119_23.2.2.2.1) false 0 0 zlk (zL2.getD 2 zL0) = true := by decide +kernel
theorem zL_3 : zchT zG zRul 99 144 119 (some 0) (some zcu119_23.2.2.2.1) false 0 0 zlk (zL2.getD 3 zL0) = true := by decide +kernel
theorem zL_4 : zchT zG zRul 99 144 119 (some 0) (some zcu119_23.2.2.2.1) false 0 0 zlk (zL2.getD 4 zL0) = true := by decide +kernel
end
section
/-! ===== the law's walk, case by case ===== -/
theorem zL_5 : zchT zG zRul 99 144 119 (some 0) (some zcu119_23.2.2.2.1) false 0 0 zlk (zL2.getD 5 zL0) = true := by decide +kernel
theorem zL_6 : zchT zG zRul 99 144 119 (some 0) (some zcu119_23.2.2.2.1) false 0 0 zlk (zL2.getD 6 zL0) = true := by decide +kernel
theorem zL_7 : zchT zG zRul 99 144 119 (some 0) (some zcu119_23.2.2.2.1) false 0 0 zlk (zL2.getD 7 zL0) = true := by decide +kernel
theorem zL_8 : zchT zG zRul 99 144 119 (some 0) (some zcu119_23.2.2.2.1) false 0 0 zlk (zL2.getD 8 zL0) = true := by decide +kernel
theorem zL_9 : zchT zG zRul 99 144 119 (some 0) (some zcu119_23.2.2.2.1) false 0 0 zlk (zL2.getD 9 zL0) = true := by decide +kernel
end
section
/-! ===== the law's walk, case by case ===== -/
theorem zL_10 : zchT zG zRul 99 144 119 (some 0) (some zcu119_23.2.2.2.1) false 0 0 zlk (zL2.getD 10 zL0) = true := by decide +kernel
theorem zL_11 : zchT zG zRul 99 144 119 (some 0) (some zcu119_23.2.2.2.1) false 0 0 zlk (zL2.getD 11 zL0) = true := by decide +kernel
theorem zL_12 : zchT zG zRul 99 144 119 (some 0) (some zcu119_23.2.2.2.1) false 0 0 zlk (zL2.getD 12 zL0) = true := by decide +kernel
theorem zL_13 : zchT zG zRul 99 144 119 (some 0) (some zcu119_23.2.2.2.1) false 0 0 zlk (zL2.getD 13 zL0) = true := by decide +kernel
theorem zL_14 : zchT zG zRul 99 144 119 (some 0) (some zcu119_23.2.2.2.1) false 0 0 zlk (zL2.getD 14 zL0) = true := by decide +kernel
end
section
/-! ===== the law's walk, case by case ===== -/
theorem zL_15 : zchT zG zRul 99 144 119 (some 0) (some zcu119_23.2.2.2.1) false 0 0 zlk (zL2.getD 15 zL0) = true := by decide +kernel
theorem zL_16 : zchT zG zRul 99 144 119 (some 0) (some zcu119_23.2.2.2.1) false 0 0 zlk (zL2.getD 16 zL0) = true := by decide +kernel
theorem zL_17 : zchT zG zRul 99 144 119 (some 0) (some zcu119_23.2.2.2.1) false 0 0 zlk (zL2.getD 17 zL0) = true := by decide +kernel
theorem zL_18 : zchT zG zRul 99 144 119 (some 0) (some zcu119_23.2.2.2.1) false 0 0 zlk (zL2.getD 18 zL0) = true := by decide +kernel
theorem zL_19 : zchT zG zRul 99 144 119 (some 0) (some zcu119_23.2.2.2.1) false 0 0 zlk (zL2.getD 19 zL0) = true := by decide +kernel
theorem zL_20 : zchT zG zRul 99 144 119 (some 0) (some zcu119_23.2.2.2.1) false 0 0 zlk (zL2.getD 20 zL0) = true := by decide +kernel
end
section
/-! ===== all listings, all walks ===== -/
theorem zok0 : zokm 0 = true := by decide +kernel
theorem zok35 : zokm 35 = true := by decide +kernel
theorem zok77 : zokm 77 = true := by decide +kernel
theorem zok92 : zokm 92 = true := by decide +kernel
theorem zok95 : zokm 95 = true := by decide +kernel
theorem zok118 : zokm 118 = true := by decide +kernel
theorem zok_lt : ∀ i ∈ ([0, 1, 2, 3, 4, 5, 6, 7, 8, 9, 10, 11, 12, 13, 14, 15, 16, 17, 18, 19, 20, 21, 22, 23, 24, 25, 26, 27, 28, 29, 30, 31, 32, 33, 34, 35, 36, 37, 38, 39, 40, 41, 42, 43, 44, 45, 46, 47, 48, 49, 50, 51, 52, 53, 54, 55, 56, 57, 58, 59, 60, 61, 62, 63, 64, 65, 66, 67, 68, 69, 70, 71, 72, 73, 74, 75, 76, 77, 78, 79, 80, 81, 82, 83, 84, 85, 86, 87, 88, 89, 90, 91, 92, 93, 94, 95, 96, 97, 98, 99, 100, 101, 102, 103, 104, 105, 106, 107, 108, 109, 110, 111, 112, 113, 114, 115, 116, 117, 118] : List Nat), zokm i = true := List.forall_mem_cons.mpr ⟨zok0, List.forall_mem_cons.mpr ⟨zok1, List.forall_mem_cons.mpr ⟨zok2, List.forall_mem_cons.mpr ⟨zok3, List.forall_mem_cons.mpr ⟨zok4, List.forall_mem_cons.mpr ⟨zok5, List.forall_mem_cons.mpr ⟨zok6, List.forall_mem_cons.mpr ⟨zok7, List.forall_mem_cons.mpr ⟨zok8, List.forall_mem_cons.mpr ⟨zok9, List.forall_mem_cons.mpr ⟨zok10, List.forall_mem_cons.mpr ⟨zok11, List.forall_mem_cons.mpr ⟨zok12, List.forall_mem_cons.mpr ⟨zok13, List.forall_mem_cons.mpr ⟨zok14, List.forall_mem_cons.mpr ⟨zok15, List.forall_mem_cons.mpr ⟨zok16, List.forall_mem_cons.mpr ⟨zok17, List.forall_mem_cons.mpr ⟨zok18, List.forall_mem_cons.mpr ⟨zok19, List.forall_mem_cons.mpr ⟨zok20, List.forall_mem_cons.mpr ⟨zok21, List.forall_mem_cons.mpr ⟨zok22, List.forall_mem_cons.mpr ⟨zok23, List.forall_mem_cons.mpr ⟨zok24, List.forall_mem_cons.mpr ⟨zok25, List.forall_mem_cons.mpr ⟨zok26, List.forall_mem_cons.mpr ⟨zok27, List.forall_mem_cons.mpr ⟨zok28, List.forall_mem_cons.mpr ⟨zok29, List.forall_mem_cons.mpr ⟨zok30, List.forall_mem_cons.mpr ⟨zok31, List.forall_mem_cons.mpr ⟨zok32, List.forall_mem_cons.mpr ⟨zok33, List.forall_mem_cons.mpr ⟨zok34, List.forall_mem_cons.mpr ⟨zok35, List.forall_mem_cons.mpr ⟨zok36, List.forall_mem_cons.mpr ⟨zok37, List.forall_mem_cons.mpr ⟨zok38, List.forall_mem_cons.mpr ⟨zok39, List.forall_mem_cons.mpr ⟨zok40, List.forall_mem_cons.mpr ⟨zok41, List.forall_mem_cons.mpr ⟨zok42, List.forall_mem_cons.mpr ⟨zok43, List.forall_mem_cons.mpr ⟨zok44, List.forall_mem_cons.mpr ⟨zok45, List.forall_mem_cons.mpr ⟨zok46, List.forall_mem_cons.mpr ⟨zok47, List.forall_mem_cons.mpr ⟨zok48, List.forall_mem_cons.mpr ⟨zok49, List.forall_mem_cons.mpr ⟨zok50, List.forall_mem_cons.mpr ⟨zok51, List.forall_mem_cons.mpr ⟨zok52, List.forall_mem_cons.mpr ⟨zok53, List.forall_mem_cons.mpr ⟨zok54, List.forall_mem_cons.mpr ⟨zok55, List.forall_mem_cons.mpr ⟨zok56, List.forall_mem_cons.mpr ⟨zok57, List.forall_mem_cons.mpr ⟨zok58, List.forall_mem_cons.mpr ⟨zok59, List.forall_mem_cons.mpr ⟨zok60, List.forall_mem_cons.mpr ⟨zok61, List.forall_mem_cons.mpr ⟨zok62, List.forall_mem_cons.mpr ⟨zok63, List.forall_mem_cons.mpr ⟨zok64, List.forall_mem_cons.mpr ⟨zok65, List.forall_mem_cons.mpr ⟨zok66, List.forall_mem_cons.mpr ⟨zok67, List.forall_mem_cons.mpr ⟨zok68, List.forall_mem_cons.mpr ⟨zok69, List.forall_mem_cons.mpr ⟨zok70, List.forall_mem_cons.mpr ⟨zok71, List.forall_mem_cons.mpr ⟨zok72, List.forall_mem_cons.mpr ⟨zok73, List.forall_mem_cons.mpr ⟨zok74, List.forall_mem_cons.mpr ⟨zok75, List.forall_mem_cons.mpr ⟨zok76, List.forall_mem_cons.mpr ⟨zok77, List.forall_mem_cons.mpr ⟨zok78, List.forall_mem_cons.mpr ⟨zok79, List.forall_mem_cons.mpr ⟨zok80, List.forall_mem_cons.mpr ⟨zok81, List.forall_mem_cons.mpr ⟨zok82, List.forall_mem_cons.mpr ⟨zok83, List.forall_mem_cons.mpr ⟨zok84, List.forall_mem_cons.mpr ⟨zok85, List.forall_mem_cons.mpr ⟨zok86, List.forall_mem_cons.mpr ⟨zok87, List.forall_mem_cons.mpr ⟨zok88, List.forall_mem_cons.mpr ⟨zok89, List.forall_mem_cons.mpr ⟨zok90, List.forall_mem_cons.mpr ⟨zok91, List.forall_mem_cons.mpr ⟨zok92, List.forall_mem_cons.mpr ⟨zok93, List.forall_mem_cons.mpr ⟨zok94, List.forall_mem_cons.mpr ⟨zok95, List.forall_mem_cons.mpr ⟨zok96, List.forall_mem_cons.mpr ⟨zok97, List.forall_mem_cons.mpr ⟨zok98, List.forall_mem_cons.mpr ⟨zok99, List.forall_mem_cons.mpr ⟨zok100, List.forall_mem_cons.mpr ⟨zok101, List.forall_mem_cons.mpr ⟨zok102, List.forall_mem_cons.mpr ⟨zok103, List.forall_mem_cons.mpr ⟨zok104, List.forall_mem_cons.mpr ⟨zok105, List.forall_mem_cons.mpr ⟨zok106, List.forall_mem_cons.mpr ⟨zok107, List.forall_mem_cons.mpr ⟨zok108, List.forall_mem_cons.mpr ⟨zok109, List.forall_mem_cons.mpr ⟨zok110, List.forall_mem_cons.mpr ⟨zok111, List.forall_mem_cons.mpr ⟨zok112, List.forall_mem_cons.mpr ⟨zok113, List.forall_mem_cons.mpr ⟨zok114, List.forall_mem_cons.mpr ⟨zok115, List.forall_mem_cons.mpr ⟨zok116, List.forall_mem_cons.mpr ⟨zok117, List.forall_mem_cons.mpr ⟨zok118, fun _ h => nomatch h⟩⟩⟩⟩⟩⟩⟩⟩⟩⟩⟩⟩⟩⟩⟩⟩⟩⟩⟩⟩⟩⟩⟩⟩⟩⟩⟩⟩⟩⟩⟩⟩⟩⟩⟩⟩⟩⟩⟩⟩⟩⟩⟩⟩⟩⟩⟩⟩⟩⟩⟩⟩⟩⟩⟩⟩⟩⟩⟩⟩⟩⟩⟩⟩⟩⟩⟩⟩⟩⟩⟩⟩⟩⟩⟩⟩⟩⟩⟩⟩⟩⟩⟩⟩⟩⟩⟩⟩⟩⟩⟩⟩⟩⟩⟩⟩⟩⟩⟩⟩⟩⟩⟩⟩⟩⟩⟩⟩⟩⟩⟩⟩⟩⟩⟩⟩⟩⟩⟩
theorem zokl_split {l : List (Nat × zO)} (n : Nat) (h1 : zokl (l.take n) = true) (h2 : zokl (l.drop n) = true) : zokl l = true := by
  unfold zokl at h1 h2 ⊢
  rw [← List.take_append_drop n l, List.all_append, h1, h2]
  rfl
theorem zokl_end : zokl (zo119.drop 560) = true := by decide +kernel
theorem zokl_7 : zokl (zo119.drop 490) = true := zokl_split 70 zok119_7 (by rw [List.drop_drop]; exact zokl_end)
theorem zokl_6 : zokl (zo119.drop 420) = true := zokl_split 70 zok119_6 (by rw [List.drop_drop]; exact zokl_7)
theorem zokl_5 : zokl (zo119.drop 350) = true := zokl_split 70 zok119_5 (by rw [List.drop_drop]; exact zokl_6)
theorem zokl_4 : zokl (zo119.drop 280) = true := zokl_split 70 zok119_4 (by rw [List.drop_drop]; exact zokl_5)
theorem zokl_3 : zokl (zo119.drop 210) = true := zokl_split 70 zok119_3 (by rw [List.drop_drop]; exact zokl_4)
theorem zokl_2 : zokl (zo119.drop 140) = true := zokl_split 70 zok119_2 (by rw [List.drop_drop]; exact zokl_3)
theorem zokl_1 : zokl (zo119.drop 70) = true := zokl_split 70 zok119_1 (by rw [List.drop_drop]; exact zokl_2)
theorem zokl_0 : zokl (zo119.drop 0) = true := zokl_split 70 zok119_0 (by rw [List.drop_drop]; exact zokl_1)
theorem zok119 : zokm 119 = true := by
  have h := zokl_0
  rw [List.drop_zero] at h
  exact h
theorem zok_all : zOK := by
  intro i pc o ho
  by_cases h : i < 119
  · exact zokm_ok (zok_lt i (by rw [show ([0, 1, 2, 3, 4, 5, 6, 7, 8, 9, 10, 11, 12, 13, 14, 15, 16, 17, 18, 19, 20, 21, 22, 23, 24, 25, 26, 27, 28, 29, 30, 31, 32, 33, 34, 35, 36, 37, 38, 39, 40, 41, 42, 43, 44, 45, 46, 47, 48, 49, 50, 51, 52, 53, 54, 55, 56, 57, 58, 59, 60, 61, 62, 63, 64, 65, 66, 67, 68, 69, 70, 71, 72, 73, 74, 75, 76, 77, 78, 79, 80, 81, 82, 83, 84, 85, 86, 87, 88, 89, 90, 91, 92, 93, 94, 95, 96, 97, 98, 99, 100, 101, 102, 103, 104, 105, 106, 107, 108, 109, 110, 111, 112, 113, 114, 115, 116, 117, 118] : List Nat) = List.range 119 from by decide]; exact List.mem_range.mpr h)) pc o ho
  · by_cases h2 : i = 119
    · subst h2
      exact zokm_ok zok119 pc o ho
    · have h3 : zopl i = [] := by
        unfold zopl
        split <;> first | rfl | omega
      rw [h3] at ho
      cases ho
theorem zE_all : ∀ (j : Nat) (ct : zCt), zG.2.2.2.2.1 j = some ct → ∃ n, zCE zG zRul n j ct = true := by
  intro j ct h
  have h : zctr j = some ct := h
  unfold zctr at h
  split at h
  · cases h; exact ⟨_, zE1⟩
  · cases h; exact ⟨_, zE2⟩
  · cases h; exact ⟨_, zE3⟩
  · cases h; exact ⟨_, zE4⟩
  · cases h; exact ⟨_, zE5⟩
  · cases h; exact ⟨_, zE6⟩
  · cases h; exact ⟨_, zE7⟩
  · cases h; exact ⟨_, zE8⟩
  · cases h; exact ⟨_, zE9⟩
  · cases h; exact ⟨_, zE10⟩
  · cases h; exact ⟨_, zE11⟩
  · cases h; exact ⟨_, zE13⟩
  · cases h; exact ⟨_, zE16⟩
  · cases h; exact ⟨_, zE17⟩
  · cases h; exact ⟨_, zE18⟩
  · cases h; exact ⟨_, zE19⟩
  · cases h; exact ⟨_, zE20⟩
  · cases h; exact ⟨_, zE27⟩
  · cases h; exact ⟨_, zE28⟩
  · cases h; exact ⟨_, zE29⟩
  · cases h; exact ⟨_, zE30⟩
  · cases h; exact ⟨_, zE31⟩
  · cases h; exact ⟨_, zE32⟩
  · cases h; exact ⟨_, zE33⟩
  · cases h; exact ⟨_, zE34⟩
  · cases h; exact ⟨_, zE44⟩
  · cases h; exact ⟨_, zE45⟩
  · cases h; exact ⟨_, zE46⟩
  · cases h; exact ⟨_, zE47⟩
  · cases h; exact ⟨_, zE48⟩
  · cases h; exact ⟨_, zE49⟩
  · cases h; exact ⟨_, zE50⟩
  · cases h; exact ⟨_, zE51⟩
  · cases h; exact ⟨_, zE52⟩
  · cases h; exact ⟨_, zE53⟩
  · cases h; exact ⟨_, zE54⟩
  · cases h; exact ⟨_, zE60⟩
  · cases h; exact ⟨_, zE61⟩
  · cases h; exact ⟨_, zE62⟩
  · cases h; exact ⟨_, zE63⟩
  · cases h; exact ⟨_, zE64⟩
  · cases h; exact ⟨_, zE65⟩
  · cases h; exact ⟨_, zE66⟩
  · cases h; exact ⟨_, zE67⟩
  · cases h; exact ⟨_, zE69⟩
  · cases h; exact ⟨_, zE72⟩
  · cases h; exact ⟨_, zE73⟩
  · cases h; exact ⟨_, zE74⟩
  · cases h; exact ⟨_, zE75⟩
  · cases h; exact ⟨_, zE76⟩
  · cases h; exact ⟨_, zE84⟩
  · cases h; exact ⟨_, zE85⟩
  · cases h; exact ⟨_, zE86⟩
  · cases h; exact ⟨_, zE88⟩
  · cases h; exact ⟨_, zE89⟩
  · cases h; exact ⟨_, zE90⟩
  · cases h; exact ⟨_, zE91⟩
  · cases h; exact ⟨_, zE96⟩
  · cases h; exact ⟨_, zE97⟩
  · cases h
theorem zU_all : ∀ (j : Nat) (ct : zCt) (pc : Nat) (cu : zCu), zG.2.2.2.2.1 j = some ct → zG.2.2.2.2.2 j pc = some cu → ∃ n, zCU zG zRul n j ct pc cu = true := by
  intro j ct pc cu hct h
  have h : zcut j pc = some cu := h
  unfold zcut at h
  split at h
  · cases h; have hct : some zct4 = some ct := hct; cases hct; exact ⟨_, zU4_41⟩
  · cases h; have hct : some zct8 = some ct := hct; cases hct; exact ⟨_, zU8_11⟩
  · cases h; have hct : some zct9 = some ct := hct; cases hct; exact ⟨_, zU9_25⟩
  · cases h; have hct : some zct17 = some ct := hct; cases hct; exact ⟨_, zU17_29⟩
  · cases h; have hct : some zct18 = some ct := hct; cases hct; exact ⟨_, zU18_42⟩
  · cases h; have hct : some zct19 = some ct := hct; cases hct; exact ⟨_, zU19_11⟩
  · cases h; have hct : some zct48 = some ct := hct; cases hct; exact ⟨_, zU48_4⟩
  · cases h; have hct : some zct49 = some ct := hct; cases hct; exact ⟨_, zU49_4⟩
  · cases h; have hct : some zct52 = some ct := hct; cases hct; exact ⟨_, zU52_63⟩
  · cases h; have hct : some zct54 = some ct := hct; cases hct; exact ⟨_, zU54_4⟩
  · cases h; have hct : some zct64 = some ct := hct; cases hct; exact ⟨_, zU64_26⟩
  · cases h; have hct : some zct65 = some ct := hct; cases hct; exact ⟨_, zU65_40⟩
  · cases h; have hct : some zct67 = some ct := hct; cases hct; exact ⟨_, zU67_46⟩
  · cases h; have hct : some zct73 = some ct := hct; cases hct; exact ⟨_, zU73_36⟩
  · cases h; have hct : some zct74 = some ct := hct; cases hct; exact ⟨_, zU74_24⟩
  · cases h; have hct : some zct74 = some ct := hct; cases hct; exact ⟨_, zU74_59⟩
  · cases h; have hct : some zct75 = some ct := hct; cases hct; exact ⟨_, zU75_26⟩
  · cases h; have hct : some zct88 = some ct := hct; cases hct; exact ⟨_, zU88_6⟩
  · cases h; have hct : some zct89 = some ct := hct; cases hct; exact ⟨_, zU89_8⟩
  · cases h; have hct : some zct90 = some ct := hct; cases hct; exact ⟨_, zU90_4⟩
  · cases h; have hct : some zct91 = some ct := hct; cases hct; exact ⟨_, zU91_4⟩
  · cases h; have hct : some zct97 = some ct := hct; cases hct; exact ⟨_, zU97_10⟩
  · have hct : (none : Option zCt) = some ct := hct; cases hct
  · cases h
theorem zone : ∀ (pc' : Nat) (cu' : zCu), zG.2.2.2.2.2 119 pc' = some cu' → pc' = 23 := by
  intro pc' cu' h
  have h : zcut 119 pc' = some cu' := h
  unfold zcut at h
  split at h <;> first | rfl | (cases h; done) | omega
theorem zcv119 : zCV zcu119_23 0 (zG.2.2.1 119) (zG.2.2.2.1 119) = true := by decide +kernel
theorem zL_all : ∀ t ∈ zL2, zchT zG zRul 99 144 119 (some 0) (some zcu119_23.2.2.2.1) false 0 0 zlk t = true := by
  intro t ht
  obtain ⟨j, hj⟩ := List.getElem?_of_mem ht
  have hlt : j < 21 := by have := (List.getElem?_eq_some_iff.mp hj).1; rw [zL2_len] at this; exact this
  have hg : zL2.getD j zL0 = t := by rw [List.getD_eq_getElem?_getD, hj]; rfl
  rw [← hg]
  match j, hlt with
  | 0, _ => exact zL_0
  | 1, _ => exact zL_1
  | 2, _ => exact zL_2
  | 3, _ => exact zL_3
  | 4, _ => exact zL_4
  | 5, _ => exact zL_5
  | 6, _ => exact zL_6
  | 7, _ => exact zL_7
  | 8, _ => exact zL_8
  | 9, _ => exact zL_9
  | 10, _ => exact zL_10
  | 11, _ => exact zL_11
  | 12, _ => exact zL_12
  | 13, _ => exact zL_13
  | 14, _ => exact zL_14
  | 15, _ => exact zL_15
  | 16, _ => exact zL_16
  | 17, _ => exact zL_17
  | 18, _ => exact zL_18
  | 19, _ => exact zL_19
  | 20, _ => exact zL_20
  | n + 21, h => omega
theorem zLaw : zchk zG zRul 99 156 119 (some 0) (some zcu119_23.2.2.2.1) true 23 zcu119_23.1 [] zcu119_23.2.1 (zcu119_23.2.2.1, zcu119_23.2.2.2.2.2.2, []) 0 0 zlk = true := by
  have hy : zchT zG zRul 99 150 119 (some 0) (some zcu119_23.2.2.2.1) false 0 0 zlk zLy = true := by
    cases hs : zstpN zG zRul 119 6 false zLy with
    | none => have := zL2_eq; rw [hs] at this; cases this
    | some L =>
      have hL : zL2 = L := by unfold zL2; rw [hs]; rfl
      exact zstpN_ok (n := 144) (m := 6) (by decide) hs (fun t ht => zL_all t (by rw [hL]; exact ht))
  cases hs : zstpN zG zRul 119 6 true zL0 with
  | none => have := zL1_eq; rw [hs] at this; cases this
  | some L =>
    have hL : zL1 = L := by unfold zL1; rw [hs]; rfl
    refine zstpN_ok (n := 150) (m := 6) (t := zL0) (by decide) hs (fun t ht => ?_)
    rw [← hL] at ht
    obtain ⟨j, hj⟩ := List.getElem?_of_mem ht
    have hlt : j < 2 := by have := (List.getElem?_eq_some_iff.mp hj).1; rw [zL1_len] at this; exact this
    have hg : zL1.getD j zL0 = t := by rw [List.getD_eq_getElem?_getD, hj]; rfl
    rw [← hg]
    match j, hlt with
    | 0, _ => exact zLx_ok
    | 1, _ => exact hy
    | n + 2, h => omega
end
section
/-! ===== what the tables say of the classes ===== -/
theorem zcl_w : ∀ r ∈ vwCl, (u_ws r.1 r.2.1 r.2.2).all (fun w => decide (w ∈ lw_tbl) && goodWord w) = true := by decide +kernel
theorem zcl_ok : zCl := by
  intro ci r hr
  have hm := List.mem_of_getElem? hr
  refine ⟨fun w hw => ?_, ?_⟩
  · have := List.all_eq_true.mp (zcl_w r hm) w hw
    simp only [Bool.and_eq_true, decide_eq_true_eq] at this
    exact List.mem_filter.mpr ⟨this.1, this.2⟩
  · match ci, hr with
    | 0, hr => cases hr; exact ⟨tyX0, tyX0_ok, nmX0⟩
    | 1, hr => cases hr; exact ⟨tyX1, tyX1_ok, nmX1⟩
    | 2, hr => cases hr; exact ⟨tyX2, tyX2_ok, nmX2⟩
    | 3, hr => cases hr; exact ⟨tyX3, tyX3_ok, nmX3⟩
    | 4, hr => cases hr; exact ⟨tyX4, tyX4_ok, nmX4⟩
    | n + 5, hr => simp at hr
end
section
/-! ===== catching: the law's own tables ===== -/
/-- the words of a table's rows, and which rows are passed on the way -/
def zhk1 (q : Nat × Nat × Nat × Nat) : Bool := decide (zcx q.2.2.2 < 3) && decide (¬ q.2.2.2 = 0) && decide (Cond.classLink RL q.2.2.2 (zen (zcx q.2.2.2)) ∈ lw_tbl) && goodWord (Cond.classLink RL q.2.2.2 (zen (zcx q.2.2.2)))
def zhk2 (z q : Nat × Nat × Nat × Nat) : Bool := decide (zcx z.2.2.2 = zcx q.2.2.2) || decide ((zen (zcx q.2.2.2), zen (zcx z.2.2.2)) ∈ zncs)
def zhk : List (Nat × Nat × Nat × Nat) → Bool
  | [] => true
  | z :: l => zhk1 z && l.all (zhk2 z) && zhk l
def zhkm (i : Nat) : Bool := zhk (zhh i) && (decide (zhh i = []) || decide ((zy i).cls = RL))
theorem zhk_split : ∀ {l : List (Nat × Nat × Nat × Nat)} {pc x hp : Nat}, zhk l = true → zfh l pc x = some hp → ∃ (pre : List (Nat × Nat × Nat × Nat)) (q : Nat × Nat × Nat × Nat) (suf : List (Nat × Nat × Nat × Nat)), l = pre ++ q :: suf ∧ q.1 ≤ pc ∧ pc < q.2.1 ∧ zcx q.2.2.2 = x ∧ q.2.2.1 = hp ∧ zhk1 q = true ∧ ∀ z ∈ pre, (¬ (z.1 ≤ pc ∧ pc < z.2.1)) ∨ (zhk1 z = true ∧ (zen x, zen (zcx z.2.2.2)) ∈ zncs)
  | [], pc, x, hp, _, h => by cases h
  | z :: l, pc, x, hp, hk, h => by
    unfold zhk at hk
    simp only [Bool.and_eq_true] at hk
    obtain ⟨⟨k1, k2⟩, k3⟩ := hk
    unfold zfh at h
    have hrec : ∀ hz : (¬ (z.1 ≤ pc ∧ pc < z.2.1)) ∨ ¬ zcx z.2.2.2 = x, zfh l pc x = some hp → ∃ (pre : List (Nat × Nat × Nat × Nat)) (q : Nat × Nat × Nat × Nat) (suf : List (Nat × Nat × Nat × Nat)), z :: l = pre ++ q :: suf ∧ q.1 ≤ pc ∧ pc < q.2.1 ∧ zcx q.2.2.2 = x ∧ q.2.2.1 = hp ∧ zhk1 q = true ∧ ∀ z ∈ pre, (¬ (z.1 ≤ pc ∧ pc < z.2.1)) ∨ (zhk1 z = true ∧ (zen x, zen (zcx z.2.2.2)) ∈ zncs) := by
      intro hz h
      obtain ⟨pre, q, suf, e1, e2, e3, e4, e5, e6, e7⟩ := zhk_split k3 h
      refine ⟨z :: pre, q, suf, by rw [e1]; rfl, e2, e3, e4, e5, e6, fun y hy => ?_⟩
      rcases List.mem_cons.mp hy with rfl | hy
      · rcases hz with hz | hz
        · exact Or.inl hz
        · have hq := List.all_eq_true.mp k2 q (by rw [e1]; exact List.mem_append_right _ List.mem_cons_self)
          unfold zhk2 at hq
          simp only [Bool.or_eq_true, decide_eq_true_eq] at hq
          rcases hq with hq | hq
          · exact absurd (hq.trans e4) hz
          · rw [e4] at hq
            exact Or.inr ⟨k1, hq⟩
      · exact e7 y hy
    by_cases c1 : z.1 ≤ pc ∧ pc < z.2.1
    · rw [if_pos c1] at h
      by_cases c2 : zcx z.2.2.2 = x
      · rw [if_pos c2] at h
        cases h
        exact ⟨[], z, l, rfl, c1.1, c1.2, c2, rfl, k1, fun y hy => (nomatch hy)⟩
      · rw [if_neg c2] at h
        exact hrec (Or.inr c2) h
    · rw [if_neg c1] at h
      exact hrec (Or.inl c1) h
theorem zhk_all : ∀ i, zhkm i = true := by
  intro i
  by_cases h : i < 120
  · have : (List.range 120).all zhkm = true := by decide +kernel
    exact List.all_eq_true.mp this i (List.mem_range.mpr h)
  · have : zhh i = [] := by
      unfold zhh
      split <;> first | rfl | omega
    unfold zhkm
    rw [this]
    rfl
theorem zcast : ∀ x, x < 3 → Cond.castable (zen x) (zen x) ∈ zTx := by decide +kernel
theorem zcatch_ok {D : va_G} {cy : Nat → ClassId} {A : Nat → Prop} {sa : Nat → Nat} : zCatch D cy A sa := by
  intro i pc hp x p l ev R s m args below meth c H locs cells slots Q ls rest q ce hat hfh hx3 hce hcv hcl kk
  obtain ⟨hx, hcb, hml, hown, hts, hK, hF, hlk, hr, het, hA⟩ := hat
  have hk := zhk_all i
  unfold zhkm at hk
  simp only [Bool.and_eq_true, Bool.or_eq_true, decide_eq_true_eq] at hk
  obtain ⟨pre, z, suf, e1, e2, e3, e4, e5, e6, e7⟩ := zhk_split hk.1 hfh
  have hne : ¬ zhh i = [] := fun h0 => by rw [h0] at e1; cases pre <;> cases e1
  have hcls := hk.2.resolve_left hne
  rw [hcls] at hown
  rw [if_neg hne, e1] at het
  have hlk1 : ∀ y : Nat × Nat × Nat × Nat, zhk1 y = true → ¬ y.2.2.2 = 0 ∧ (Cond.classLink RL y.2.2.2 (zen (zcx y.2.2.2))).before args s = true := fun y hy => by
    unfold zhk1 at hy
    simp only [Bool.and_eq_true, decide_eq_true_eq] at hy
    exact ⟨hy.1.1.2, hts _ (List.mem_filter.mpr ⟨hy.1.2, hy.2⟩)⟩
  have hw := zcast x hx3
  refine vx_catch (E := zen x) (name := zen x) hown (tableOf pre) ⟨z.1, z.2.1, z.2.2.1, z.2.2.2⟩ (tableOf suf) ?_ ?_ ?_ (hlk1 z e6).1 ?_ (va_Nw.use rfl (hF.2.2.2.1 _ hw)) hce hcv hcl (by show W _ _ _ _ _ _ _ _ _ _ _ _ _ _ _ (F0 m z.2.2.1 ls [.ref q]); rw [e5]; exact kk)
  · rw [het]
    unfold tableOf
    rw [List.map_append, List.map_cons]
  · intro y hy
    unfold tableOf at hy
    obtain ⟨w, hw1, rfl⟩ := List.mem_map.mp hy
    rcases e7 w hw1 with h9 | ⟨h9, h10⟩
    · refine Or.inl ?_
      show (decide (w.1 ≤ pc) && decide (pc < w.2.1)) = false
      rw [← Bool.decide_and]
      exact decide_eq_false h9
    · exact Or.inr ⟨(hlk1 w h9).1, _, (hlk1 w h9).2, hF.2.2.2.2 _ h10⟩
  · show (decide (z.1 ≤ pc) && decide (pc < z.2.1)) = true
    rw [decide_eq_true e2, decide_eq_true e3]
    rfl
  · have := (hlk1 z e6).2
    rw [e4] at this
    exact this
end
section
/-! ===== constructors: the world grows ===== -/
def zaa (n : Nat) (ad ad' : Nat → Nat) : Prop := (∀ v, v < n → ad' v = ad v) ∧ ∀ v, 43 ≤ v → ad' v = ad v
theorem zaa_rf (n : Nat) (ad : Nat → Nat) : zaa n ad ad := ⟨fun _ _ => rfl, fun _ _ => rfl⟩
theorem zaa_tr {n n' : Nat} {ad ad1 ad2 : Nat → Nat} (h : zaa n ad ad1) (h1 : zaa n' ad1 ad2) (hn : n ≤ n') : zaa n ad ad2 := ⟨fun v hv => (h1.1 v (by omega)).trans (h.1 v hv), fun v hv => (h1.2 v hv).trans (h.2 v hv)⟩
/-- a number, nothing, or a cell that is there -/
def zrk (n : Nat) (a : zA) : Bool := decide (a.1 = 0) || decide (a.1 = 1) || decide (a.1 = 3) || decide (a.2.2.1 < n) || decide (43 ≤ a.2.2.1)
def zrk2 (n : Nat) (a : zA) : Bool := decide (a.1 = 3) || decide (a.2.2.1 < n) || decide (43 ≤ a.2.2.1)
theorem zval_ad {e : Nat → Int} {ad ad' : Nat → Nat} {a : zA} (h : ad' a.2.2.1 = ad a.2.2.1) : zval e ad' a = zval e ad a := by
  unfold zval
  rw [h]
theorem zrk_val {n : Nat} {e : Nat → Int} {ad ad' : Nat → Nat} {a : zA} (h : zaa n ad ad') (hk : zrk n a = true) : zval e ad' a = zval e ad a := by
  unfold zrk at hk
  simp only [Bool.or_eq_true, decide_eq_true_eq] at hk
  rcases hk with (((hk | hk) | hk) | hk) | hk
  · rw [zval_0 hk, zval_0 hk]
  · rw [zval_1 hk, zval_1 hk]
  · rw [zval_3 hk, zval_3 hk]
  · exact zval_ad (h.1 _ hk)
  · exact zval_ad (h.2 _ hk)
def zrkA (n : Nat) (lc : zL) (st : List zA) (h : List zC) : Bool := lc.all (fun q => zrk n q.2) && st.all (zrk n) && h.all (fun c => c.2.2.2.2.all (zrk n)) && h.all (fun c => decide (¬ c.1 = 3) || c.2.2.2.2.all (zrk2 n))
theorem zst_ad {n : Nat} {e : Nat → Int} {ad ad' : Nat → Nat} {st : List zA} (h : zaa n ad ad') (hk : ∀ a ∈ st, zrk n a = true) : zst e ad' st = zst e ad st := List.map_congr_left fun a ha => zrk_val h (hk a ha)
theorem zCR_ad {rul : Nat → List zI} {cy : Nat → ClassId} {n : Nat} {e : Nat → Int} {ad ad' : Nat → Nat} {c : zC} {E : va_E} (h : zaa n ad ad') (hk : ∀ a ∈ c.2.2.2.2, zrk n a = true) (hk2 : ¬ c.1 = 3 ∨ ∀ a ∈ c.2.2.2.2, zrk2 n a = true) (hc : zCR rul cy e ad c E) : zCR rul cy e ad' c E := by
  obtain ⟨t, ci, len, r, fs⟩ := c
  have hk : ∀ a ∈ fs, zrk n a = true := hk
  match t, hk2, hc with
  | 0, _, hc =>
    have hc : E = .inr (ci, zst e ad fs) := hc
    show E = .inr (ci, zst e ad' fs)
    rw [zst_ad h hk]
    exact hc
  | 1, _, hc => exact hc
  | 2, _, hc => exact hc
  | 3, hk2, ⟨f, h1, h2, h3⟩ =>
    refine ⟨f, h1, h2, fun j a ha => ?_⟩
    rw [h3 j a ha]
    by_cases ht : a.1 = 3
    · rw [if_pos ht, if_pos ht]
    · rw [if_neg ht, if_neg ht]
      have hz := (hk2.resolve_left (fun q => q rfl)) a (List.mem_of_getElem? ha)
      unfold zrk2 at hz
      simp only [Bool.or_eq_true, decide_eq_true_eq] at hz
      rcases hz with (hz | hz) | hz
      · exact absurd hz ht
      · rw [h.1 _ hz]
      · rw [h.2 _ hz]
  | 4, _, hc => exact hc
  | 5, _, hc => exact hc
  | t + 6, _, hc => exact hc
section ZG
variable {rul : Nat → List zI} {D : va_G} {cy : Nat → ClassId} {ad ad' : Nat → Nat} {A : Nat → Prop} {nL : Nat} {H0 : Heap} {e : Nat → Int} {lc : zL} {st : List zA} {h : List zC} {S : zS} {ws : va_W} {H H1 : Heap} {locs locs1 : List Loc} {ls : Array Slot}
theorem zrkA_ok {n : Nat} (hk : zrkA n lc st h = true) : (∀ q ∈ lc, zrk n q.2 = true) ∧ (∀ a ∈ st, zrk n a = true) ∧ (∀ c ∈ h, ∀ a ∈ c.2.2.2.2, zrk n a = true) ∧ ∀ c ∈ h, ¬ c.1 = 3 ∨ ∀ a ∈ c.2.2.2.2, zrk2 n a = true := by
  unfold zrkA at hk
  simp only [Bool.and_eq_true] at hk
  obtain ⟨⟨⟨k1, k2⟩, k3⟩, k4⟩ := hk
  refine ⟨List.all_eq_true.mp k1, List.all_eq_true.mp k2, fun c hc => List.all_eq_true.mp (List.all_eq_true.mp k3 c hc), fun c hc => ?_⟩
  have := List.all_eq_true.mp k4 c hc
  simp only [Bool.or_eq_true, decide_eq_true_eq] at this
  exact this.imp id (fun q => List.all_eq_true.mp q)
theorem zHR_ad (hr : zHR rul cy e ad h ws) (hz : zaa h.length ad ad') (k3 : ∀ c ∈ h, ∀ a ∈ c.2.2.2.2, zrk h.length a = true) (k4 : ∀ c ∈ h, ¬ c.1 = 3 ∨ ∀ a ∈ c.2.2.2.2, zrk2 h.length a = true) : zHR rul cy e ad' h ws := by
  refine ⟨hr.1, fun i c hc => ?_⟩
  obtain ⟨E, q1, q2⟩ := hr.2 i c hc
  have hm := List.mem_of_getElem? hc
  exact ⟨E, by rw [hz.1 i (List.getElem?_eq_some_iff.mp hc).1]; exact q1, zCR_ad hz (k3 c hm) (k4 c hm) q2⟩
theorem zlv_ad (hz : zaa h.length ad ad') (k1 : ∀ q ∈ lc, zrk h.length q.2 = true) : zlv e ad' lc = zlv e ad lc := List.map_congr_left fun q hq => by rw [zrk_val hz (k1 q hq)]
/-- the addresses of the new cells -/
def zgr (ad : Nat → Nat) (n : Nat) (es : va_W) : Nat → Nat := fun v => if n ≤ v then (match es[v - n]? with
  | some x => x.1
  | none => ad v) else ad v
theorem zgr_aa {n : Nat} {es : va_W} (h : n + es.length ≤ 43) : zaa n ad (zgr ad n es) := by
  refine ⟨fun v hv => ?_, fun v hv => ?_⟩
  · unfold zgr
    rw [if_neg (by omega)]
  · unfold zgr
    rw [if_pos (by omega), List.getElem?_eq_none (by omega)]
theorem zI_grow {cs : List zC} {es : va_W} (hi : zInv rul D cy ad A nL H0 e lc st h S ws H locs ls) (hl : cs.length = es.length) (h43 : h.length + es.length ≤ 43) (hk : zrkA h.length lc st h = true)
    (hcs : ∀ (j : Nat) (c : zC) (x : Nat × va_E), cs[j]? = some c → es[j]? = some x → zCR rul cy e (zgr ad h.length es) c x.2) (hwf : ∀ c ∈ cs, ∀ a ∈ c.2.2.2.2, zwf S.1.length a)
    (hP1 : va_P D vwCl (ws ++ es) H1) (hD1 : va_D A (ws ++ es)) (hS1 : va_S A H0 H1 locs1) : zInv rul D cy (zgr ad h.length es) A nL H0 e lc st (h ++ cs) S (ws ++ es) H1 locs1 ls ∧ zst e (zgr ad h.length es) st = zst e ad st := by
  have hz := zgr_aa (ad := ad) h43
  obtain ⟨k1, k2, k3, k4⟩ := zrkA_ok hk
  obtain ⟨h1, h2, h3, h4, h5, h6, h7, h8, h9⟩ := hi
  have h5' := zHR_ad h5 hz k3 k4
  refine ⟨⟨h1, h2, h3, fun c hc => ?_, ⟨by rw [List.length_append, List.length_append, h5.1, hl], fun i c hc => ?_⟩, hP1, hD1, hS1, by rw [zlv_ad hz k1]; exact h9⟩, zst_ad hz k2⟩
  · rcases List.mem_append.mp hc with hc | hc
    · exact h4 c hc
    · exact hwf c hc
  · by_cases hlt : i < h.length
    · rw [List.getElem?_append_left hlt] at hc
      obtain ⟨E, q1, q2⟩ := h5'.2 i c hc
      exact ⟨E, by rw [List.getElem?_append_left (by rw [h5.1]; exact hlt)]; exact q1, q2⟩
    · rw [List.getElem?_append_right (by omega)] at hc
      have hj := (List.getElem?_eq_some_iff.mp hc).1
      have hx : es[i - h.length]? = some es[i - h.length] := List.getElem?_eq_getElem (by omega)
      refine ⟨es[i - h.length].2, ?_, hcs _ c _ hc hx⟩
      rw [List.getElem?_append_right (by rw [h5.1]; omega), h5.1, hx]
      have : zgr ad h.length es i = es[i - h.length].1 := by
        unfold zgr
        rw [if_pos (by omega), hx]
      rw [this]
end ZG
/-- an array of noughts, as the picture has it -/
def zzr (rc : Nat → List zI) (c : zC) : Bool :=
  (decide (c.1 = 2 ∧ c.2.1 = 0 ∧ c.2.2.2.1 < 100 ∧ ¬ (rc c.2.2.2.1).length = 0) && (rc c.2.2.2.1).all (fun i => decide (i.1 ≤ 0 ∧ 0 ≤ i.2)) && decide (c.2.2.2.2 = if c.2.2.2.1 = 2 then [(0, 0, 0, 0)] else [])) ||
  (decide (c.1 = 1 ∧ c.2.1 = 0 ∧ c.2.2.2.2 = List.replicate c.2.2.1 (0, 0, 0, 0))) || (decide (c.1 = 4 ∧ c.2.1 = 1 ∧ c.2.2.2.2 = List.replicate c.2.2.1 (1, 0, 0, 0)))
def zz0 (c : zC) : vp_A := (c.2.2.1, if c.1 = 4 then .inr (.inl fun _ => 0) else .inl fun _ => 0)
theorem zzr_ok {rul rc : Nat → List zI} {cy : Nat → ClassId} {e : Nat → Int} {ad : Nat → Nat} {c : zC} (hrl : ∀ r, r < 100 → rc r = rul r) (h : zzr rc c = true) : zCR rul cy e ad c (.inl (cy c.2.1, zz0 c)) := by
  obtain ⟨t, ci, len, r, fs⟩ := c
  unfold zzr at h
  simp only [Bool.or_eq_true, Bool.and_eq_true, decide_eq_true_eq] at h
  rcases h with (⟨⟨⟨rfl, rfl, h3, h4⟩, h5⟩, h6⟩ | ⟨rfl, rfl, h3⟩) | ⟨rfl, rfl, h3⟩
  · have h0 : (0 : Int32).toInt = 0 := by decide
    rw [hrl r h3] at h4 h5
    refine ⟨fun _ => 0, rfl, fun j _ => ?_, ?_⟩
    · have hlt : j % (rul r).length < (rul r).length := Nat.mod_lt _ (by omega)
      have := List.all_eq_true.mp h5 _ (List.getElem_mem hlt)
      simp only [decide_eq_true_eq] at this
      exact ⟨(rul r)[j % (rul r).length], List.getElem?_eq_getElem hlt, by show _ ≤ (0 : Int32).toInt; rw [h0]; exact this.1, by show (0 : Int32).toInt ≤ _; rw [h0]; exact this.2⟩
    · by_cases r1 : r = 1
      · subst r1
        rw [if_neg (by decide)] at h6
        subst h6
        exact zX_1i (show zPw (fun _ => 0) (-1) from fun r k _ _ => Or.inl (by show (0 : Int32).toInt ≤ _; rw [h0]; omega))
      · by_cases r2 : r = 2
        · subst r2
          rw [if_pos rfl] at h6
          subst h6
          refine zX_2i (show ∀ k : Nat, k < 3 → (k : Int) < zv e (0, 0, 0, 0) → 1 ≤ ((fun _ => 0 : Nat → Int32) k).toInt from fun k _ hk => ?_)
          rw [zv_c] at hk
          omega
        · exact zX_o r1 r2
  · subst h3
    refine ⟨fun _ => 0, rfl, by show (List.replicate len _).length = len; rw [List.length_replicate], fun j a ha => ?_⟩
    rw [List.eq_of_mem_replicate (List.mem_of_getElem? ha), zv_c]
    rfl
  · subst h3
    refine ⟨fun _ => 0, rfl, by show (List.replicate len _).length = len; rw [List.length_replicate], fun j a ha => ?_⟩
    rw [List.eq_of_mem_replicate (List.mem_of_getElem? ha)]
    have : zv e (1, 0, 0, 0) = 0 := by unfold zv; simp
    rw [this]
    rfl
theorem zzr_wf {rc : Nat → List zI} {c : zC} {n : Nat} (h : zzr rc c = true) : ∀ a ∈ c.2.2.2.2, zwf n a := by
  obtain ⟨t, ci, len, r, fs⟩ := c
  unfold zzr at h
  simp only [Bool.or_eq_true, Bool.and_eq_true, decide_eq_true_eq] at h
  intro a ha
  have ha : a ∈ fs := ha
  rcases h with (⟨-, h6⟩ | ⟨-, -, h3⟩) | ⟨-, -, h3⟩
  · rw [h6] at ha
    split at ha
    · rw [List.mem_singleton.mp ha]; exact Or.inl rfl
    · cases ha
  · rw [h3] at ha
    rw [List.eq_of_mem_replicate ha]; exact Or.inl rfl
  · rw [h3] at ha
    rw [List.eq_of_mem_replicate ha]; exact Or.inl rfl
end
section
/-! ===== the constructors' walk: straight on, every number known ===== -/
def zty (ci : Nat) : Nat → FieldType := match ci with
  | 0 => tyX0
  | 1 => tyX1
  | 2 => tyX2
  | 3 => tyX3
  | _ => tyX4
/-- a new object's fields -/
def zdf (t : FieldType) : zA := if t.isReference then (3, 0, 0, 0) else (0, 0, 0, 0)
def zdN (ci : Nat) : Nat := match ci with
  | 0 => 12
  | 1 => 5
  | 2 => 5
  | 3 => 12
  | _ => 19
def zdef (ci : Nat) : List zA := (List.range (zdN ci)).map fun k => zdf (zty ci k)
def zbc (G : zCf) (i : Nat) : Nat := if i = 119 then 1000 else G.2.2.1 i
def zbs (G : zCf) (i : Nat) : Nat := if i = 119 then 100000 else G.2.2.2.1 i
abbrev zKi : Type := Nat → zL → List zA → List zC → Nat → Nat → Bool
def zputX (ci k : Nat) (b : zA) (z : FieldType) (S : zS) : Bool := (z.isReference && decide (b.1 = 2)) || (decide (z = .int) && decide (b.1 = 0)) || (decide (z = .boolean) && decide (b.1 = 0) && zin S.1 b 0 1)
def zcok2 (G : zCf) (i j : Nat) (q : List zA × List zA) : Bool := q.1.all (fun a => decide (¬ a.1 = 1)) && decide (G.1 j + 1 ≤ G.1 i) && decide (8 + (zmaxL j + 11) + G.2.1 j ≤ G.2.1 i) && decide (zwords q.2 ≤ 8) && decide (q.1.length ≤ zmaxL j) && decide (¬ j = 119)
/-- the arguments, and what stays on the stack -/
def zargI (o : zO) (st : List zA) : Option (List zA × List zA) := if o.1 = 50 then (if o.2.2.2.1 ≤ st.length then some ((st.take o.2.2.2.1).reverse, st.drop o.2.2.2.1) else none) else (match st with
  | a :: r => if a.1 = 2 then some ([a], r) else none
  | [] => none)
def zini (G : zCf) (rc : Nat → List zI) (alc : Nat → zC) : Nat → Nat → Nat → zL → List zA → List zC → Nat → Nat → zKi → Bool
  | 0, _, _, _, _, _, _, _, _ => false
  | n + 1, i, pc, lc, st, h, nc, ns, k => match zopf (zopl i) pc with
    | none => false
    | some o =>
      if o.1 = 33 ∨ (i = 119 ∧ pc = 23) then k pc lc st h nc ns
      else if o.1 = 70 then (match st with
        | a :: r => decide (a.1 = 2) && decide (1 ≤ G.1 i) && decide (zwords r + 12 ≤ G.2.1 i) && zini G rc alc n i (pc + 3) lc r h nc ns k
        | [] => false)
      else if o.1 = 71 then decide (h.length + 1 ≤ 43) && zrkA h.length lc st h && decide (nc + 1 ≤ zbc G i) && decide (ns + o.2.2.2.1 ≤ zbs G i) && zini G rc alc n i (pc + 3) lc ((2, 0, h.length, 0) :: st) (h ++ [(0, o.2.2.1, 0, 0, zdef o.2.2.1)]) (nc + 1) (ns + o.2.2.2.1) k
      else if o.1 = 72 then (match st with
        | b :: r => decide (h.length + 1 ≤ 43) && zrkA h.length lc r h && decide (b = (0, 0, 0, ((alc h.length).2.2.1 : Int))) && decide ((alc h.length).2.1 = o.2.2.1) && zzr rc (alc h.length) && decide ((alc h.length).2.2.1 ≤ 10000) && decide (nc + 1 ≤ zbc G i) && decide (ns + (alc h.length).2.2.1 ≤ zbs G i) && zini G rc alc n i (pc + 2) lc ((2, 0, h.length, 0) :: r) (h ++ [alc h.length]) (nc + 1) (ns + (alc h.length).2.2.1) k
        | [] => false)
      else if o.1 = 73 then (match st with
        | b :: r => decide (h.length + 1 ≤ 43) && zrkA h.length lc r h && decide (b = (0, 0, 0, 4)) && decide (nc + 1 ≤ zbc G i) && decide (ns + 4 ≤ zbs G i) && zini G rc alc n i (pc + 3) lc ((2, 0, h.length, 0) :: r) (h ++ [(3, 2, 4, 0, List.replicate 4 (3, 0, 0, 0))]) (nc + 1) (ns + 4) k
        | [] => false)
      else if o.1 = 74 then (match st with
        | b :: a :: r => decide (h.length + 4 ≤ 43) && zrkA h.length lc r h && decide (b = (0, 0, 0, 401)) && decide (a = (0, 0, 0, 3)) && zzr rc (alc (h.length + 1)) && decide ((alc (h.length + 1)).1 = 2 ∧ (alc (h.length + 1)).2.2.1 = 401) && decide (nc + 4 ≤ zbc G i) && decide (ns + 1206 ≤ zbs G i) &&
            zini G rc alc n i (pc + 4) lc ((2, 0, h.length, 0) :: r) (h ++ [(3, 3, 3, 0, [(2, 0, h.length + 1, 0), (2, 0, h.length + 2, 0), (2, 0, h.length + 3, 0)]), alc (h.length + 1), alc (h.length + 1), alc (h.length + 1)]) (nc + 4) (ns + 1206) k
        | _ => false)
      else if o.1 = 75 then (match st with
        | b :: a :: r => (match h[a.2.2.1]? with
          | some c => decide (a.1 = 2 ∧ c.1 = 0 ∧ c.2.1 = o.2.2.1 ∧ o.2.2.2.1 < c.2.2.2.2.length) && zputX o.2.2.1 o.2.2.2.1 b (zty o.2.2.1 o.2.2.2.1) ([], [], []) && zini G rc alc n i (pc + 3) lc r (h.set a.2.2.1 (0, o.2.2.1, c.2.2.1, c.2.2.2.1, c.2.2.2.2.set o.2.2.2.1 b)) nc ns k
          | none => false)
        | _ => false)
      else if o.1 = 76 then (match st with
        | v :: b :: a :: r => (match h[a.2.2.1]? with
          | some c => (match h[v.2.2.1]? with
            | some d => decide (a.1 = 2 ∧ v.1 = 2 ∧ c.1 = 3 ∧ c.2.1 = 2 ∧ d.1 = 0 ∧ d.2.1 = 1) && decide (b.1 = 0 ∧ b.2.1 = 0 ∧ b.2.2.1 = 0 ∧ 0 ≤ b.2.2.2 ∧ b.2.2.2.toNat < c.2.2.1 ∧ c.2.2.1 ≤ 100) && zini G rc alc n i (pc + 1) lc r (h.set a.2.2.1 (3, 2, c.2.2.1, c.2.2.2.1, c.2.2.2.2.set b.2.2.2.toNat v)) nc ns k
            | none => false)
          | none => false)
        | _ => false)
      else if o.1 = 77 then (match st with
        | a :: r => (match h[a.2.2.1]? with
          | some c => decide (a.1 = 2 ∧ (c.1 = 2 ∨ c.1 = 1) ∧ c.2.1 = 0 ∧ c.2.2.1 ≤ 10000) && zini G rc alc n i (pc + 1) lc ((0, 0, 0, (c.2.2.1 : Int)) :: r) h nc ns k
          | none => false)
        | [] => false)
      else if o.1 = 78 ∨ o.1 = 50 then (match zargI o st with
        | some q => zcok2 G i o.2.2.1 q && decide (nc + G.2.2.1 o.2.2.1 ≤ zbc G i) && decide (ns + G.2.2.2.1 o.2.2.1 ≤ zbs G i) && zrkA h.length lc q.2 h && decide (zret o.2.2.1 = none ∧ zhh o.2.2.1 = []) && plainName (zy o.2.2.1).cls && zini G rc alc n o.2.2.1 0 (zent 0 q.1) [] h 0 0 (fun _ _ st' h' _ _ => decide (st' = []) && zini G rc alc n i (pc + 3) lc q.2 h' (nc + G.2.2.1 o.2.2.1) (ns + G.2.2.2.1 o.2.2.1) k)
        | none => false)
      else match zsucc rc (G.1 i) (G.2.1 i) i pc o lc st h ([], [], []) with
        | some [t] => decide (t.2.2.2.2.1.length = 0 ∧ t.2.2.2.2.2.1.length = 0 ∧ t.2.2.2.2.2.2.length = 0) && decide (t.2.2.2.1.length = h.length) && zini G rc alc n i t.1 t.2.1 t.2.2.1 t.2.2.2.1 nc ns k
        | _ => false
/-- the listing is right here -/
def zgi (i pc : Nat) (o : zO) : Bool := match o.1 with
  | 70 => decide (decode (zcode i) pc = .ok (.invokespecial o.2.1.toNat, 3)) && zwd (o.2.2.2.2.2.getD 0 0) (.methodLink (zy i).cls o.2.1.toNat objectInit) && zwd (o.2.2.2.2.2.getD 1 0) (.instanceMethod objectInit) && zwd (o.2.2.2.2.2.getD 2 0) (.code objectInit ⟨#[0xb1]⟩ 1 none)
  | 71 => match vwCl[o.2.2.1]? with
    | some r => decide (decode (zcode i) pc = .ok (.new o.2.1.toNat, 3)) && decide (o.2.2.2.1 = r.2.2) && zwd (o.2.2.2.2.2.getD 0 0) (.classLink (zy i).cls o.2.1.toNat r.1) && zwd (o.2.2.2.2.2.getD 1 0) (.instantiable r.1 r.2.2) && zwd (o.2.2.2.2.2.getD 2 0) (.initialized r.1)
    | none => false
  | 72 => (decide (o.2.2.1 = 0) && decide (decode (zcode i) pc = .ok (.newarray .int, 2)) && zwd (o.2.2.2.2.2.getD 0 0) (.arrayClass .int)) || (decide (o.2.2.1 = 1) && decide (decode (zcode i) pc = .ok (.newarray .long, 2)) && zwd (o.2.2.2.2.2.getD 0 0) (.arrayClass .long))
  | 73 => decide (decode (zcode i) pc = .ok (.anewarray o.2.1.toNat, 3)) && zwd (o.2.2.2.2.2.getD 0 0) (.classLink (zy i).cls o.2.1.toNat RX1)
  | 74 => decide (decode (zcode i) pc = .ok (.multianewarray o.2.1.toNat 2, 4)) && zwd (o.2.2.2.2.2.getD 0 0) (.classLink (zy i).cls o.2.1.toNat ("[" ++ (FieldType.array .int).toString)) && zwd (o.2.2.2.2.2.getD 1 0) (.arrayClass .int)
  | 75 => match vwCl[o.2.2.1]? with
    | some r => decide (decode (zcode i) pc = .ok (.putfield o.2.1.toNat, 3)) && decide (o.2.2.2.1 < r.2.2) && zwd o.2.2.2.2.1 (.fieldLink (zy i).cls o.2.1.toNat (r.2.1 o.2.2.2.1).1 (r.2.1 o.2.2.2.1).2.1 (r.2.1 o.2.2.2.1).2.2.1) && (decide ((r.2.1 o.2.2.2.1).2.2.2 = false) || decide ((zy i).name = "<init>" ∧ (r.2.1 o.2.2.2.1).1 = (zy i).cls))
    | none => false
  | 76 => decide (decode (zcode i) pc = .ok (.aastore, 1))
  | 77 => decide (decode (zcode i) pc = .ok (.arraylength, 1))
  | 78 => decide (decode (zcode i) pc = .ok (.invokespecial o.2.1.toNat, 3)) && zwd (o.2.2.2.2.2.getD 0 0) (.methodLink (zy i).cls o.2.1.toNat (zy o.2.2.1)) && zwd (o.2.2.2.2.2.getD 1 0) (.instanceMethod (zy o.2.2.1)) && zwd (o.2.2.2.2.2.getD 2 0) (.initialized (zy o.2.2.1).cls) && zwd (o.2.2.2.2.2.getD 3 0) (zcw o.2.2.1) && zgn o.2.2.1 0 && decide ((zy o.2.2.1).name = "<init>")
  | _ => true
def zOKi : Prop := ∀ (i pc : Nat) (o : zO), zopf (zopl i) pc = some o → zgi i pc o = true
/-- what the classes are -/
theorem zcls {ci : Nat} {r : vw_C} (hr : vwCl[ci]? = some r) : r.2.2 = zdN ci ∧ (∀ k, k < r.2.2 → parseFieldDescriptor (r.2.1 k).2.2.1 = some (zty ci k)) ∧ ∀ a, a < r.2.2 → ∀ b, b < r.2.2 → a ≠ b → (r.2.1 a).2.1 ≠ (r.2.1 b).2.1 := by
  match ci, hr with
  | 0, hr => cases hr; exact ⟨rfl, tyX0_ok, nmX0⟩
  | 1, hr => cases hr; exact ⟨rfl, tyX1_ok, nmX1⟩
  | 2, hr => cases hr; exact ⟨rfl, tyX2_ok, nmX2⟩
  | 3, hr => cases hr; exact ⟨rfl, tyX3_ok, nmX3⟩
  | 4, hr => cases hr; exact ⟨rfl, tyX4_ok, nmX4⟩
  | n + 5, hr => simp at hr
theorem zdv : ∀ ci, ci < 5 → ∀ k, k < zdN ci → defaultValue (zty ci k) = if (zty ci k).isReference then Value.null else .int 0 := by decide +kernel
theorem zdf_val (e : Nat → Int) (ad : Nat → Nat) (t : FieldType) : zval e ad (zdf t) = if t.isReference then Value.null else .int 0 := by
  unfold zdf
  by_cases h : t.isReference = true
  · rw [if_pos h, if_pos h]
    exact zval_3 rfl
  · rw [if_neg h, if_neg h, zval_0 rfl, zv_c]
    rfl
theorem zdef_V {ci : Nat} (e : Nat → Int) (ad : Nat → Nat) (hci : ci < 5) : ∀ j, j < zdN ci → defaultValue (zty ci j) = vp_V (zst e ad (zdef ci)) j := by
  intro j hj
  unfold vp_V zst zdef
  rw [List.getD_eq_getElem?_getD, List.map_map, List.getElem?_map, List.getElem?_range hj]
  show _ = zval e ad (zdf (zty ci j))
  rw [zdf_val, zdv ci hci j hj]
theorem zdef_st (ci : Nat) (e : Nat → Int) (ad ad' : Nat → Nat) : zst e ad (zdef ci) = zst e ad' (zdef ci) := by
  unfold zst zdef
  rw [List.map_map, List.map_map]
  apply List.map_congr_left
  intro k _
  show zval e ad (zdf (zty ci k)) = zval e ad' (zdf (zty ci k))
  rw [zdf_val, zdf_val]
theorem zdef_wf (ci n : Nat) : ∀ a ∈ zdef ci, zwf n a := by
  intro a ha
  unfold zdef at ha
  obtain ⟨k, -, rfl⟩ := List.mem_map.mp ha
  unfold zdf
  split <;> exact Or.inl rfl
/-- what the constructors count on besides -/
def zF2 (U : State) : Prop := va_AO RX1 U ∧ va_AOA .int U
theorem zF2_mv {u U : State} (hvm : u.vm.Alike U.vm) (h : zF2 u) : zF2 U := ⟨va_AO.moved hvm h.1, va_AOA.moved hvm h.2⟩
def zPi (D : va_G) (cy : Nat → ClassId) (A : Nat → Prop) (sa : Nat → Nat) (ws : va_W) (vals : List Value) : Array Value → State → Prop := fun v U => zPc D cy A sa ws vals v U ∧ zF2 U
theorem zPi_bl (D : va_G) (cy : Nat → ClassId) (A : Nat → Prop) (sa : Nat → Nat) (ws : va_W) (vals : List Value) : FrameBlind (zPi D cy A sa ws vals) := fun a U g mk q => ⟨zPc_bl D cy A sa ws vals a U g mk q.1, zF2_mv (u := U) (U := U.calling g mk a) (Vm.Alike.refl U.vm) q.2⟩
abbrev zU : Type := (Nat → Nat) × (Nat → Int) × List zC × va_W
def zBi (rul : Nat → List zI) (D : va_G) (cy : Nat → ClassId) (A : Nat → Prop) (n0 : Nat) (ad0 : Nat → Nat) : zU → State → Prop := fun u t => zaa n0 ad0 u.1 ∧ n0 ≤ u.2.2.1.length ∧ u.2.2.1.length ≤ 43 ∧ (∀ c ∈ u.2.2.1, ∀ a ∈ c.2.2.2.2, zwf 0 a) ∧ zHR rul cy u.2.1 u.1 u.2.2.1 u.2.2.2 ∧ va_D A u.2.2.2 ∧ va_P D vwCl u.2.2.2 t.heap
def zMi (l : Launch) (D : va_G) (cy : Nat → ClassId) (A : Nat → Prop) (sa : Nat → Nat) (G : zCf) (rul : Nat → List zI) (j : Nat) (kh : List zC → Bool) (n0 : Nat) (ad0 : Nat → Nat) (ws : va_W) (vals : List Value) : Prop :=
  Met l (zy j) (zws j) (zrm G j) (zPi D cy A sa ws vals) (va_Qv (S := zU) (fun u => kh u.2.2.1 = true) (zBi rul D cy A n0 ad0) A) (G.2.2.1 j) (G.2.2.2.1 j) A
def zIS (l : Launch) (D : va_G) (cy : Nat → ClassId) (A : Nat → Prop) (sa : Nat → Nat) (G : zCf) (rul rc : Nat → List zI) (alc : Nat → zC) (n : Nat) : Prop :=
  ∀ (i pc : Nat) (lc : zL) (st : List zA) (h : List zC) (nc ns : Nat) (k : zKi), zini G rc alc n i pc lc st h nc ns k = true →
  ∀ (p : Program) (ev : Env) (s : State) (m : MethodId) (args : Array Value) (below : List Frame) (meth : Method) (c : Code) (Q : State → Prop) (n0 : Nat) (ad0 : Nat → Nat) (e : Nat → Int) (ad : Nat → Nat) (ws : va_W) (H : Heap) (locs : List Loc) (ls : Array Slot) (oc os Mc Ms : Nat),
  zAt D cy A sa i p s m args meth c → (i = 119 → zSc rul ad A s) → zF2 s → meth.name = (zy i).name → zInv rul D cy ad A (zmaxL i) s.heap e lc st h ([], [], []) ws H locs ls → zaa n0 ad0 ad → n0 ≤ h.length → h.length ≤ 43 → oc + zbc G i ≤ Mc → os + zbs G i ≤ Ms → nc ≤ zbc G i → ns ≤ zbs G i →
  (∀ (pc' : Nat) (lc' : zL) (st' : List zA) (h' : List zC) (nc' ns' : Nat) (e' : Nat → Int) (ad' : Nat → Nat) (ws' : va_W) (H' : Heap) (locs' : List Loc) (ls' : Array Slot), k pc' lc' st' h' nc' ns' = true → ((∃ o, zopf (zopl i) pc' = some o ∧ o.1 = 33) ∨ (i = 119 ∧ pc' = 23)) → zaa n0 ad0 ad' → n0 ≤ h'.length → h'.length ≤ 43 → nc' ≤ zbc G i → ns' ≤ zbs G i → zInv rul D cy ad' A (zmaxL i) s.heap e' lc' st' h' ([], [], []) ws' H' locs' ls' →
    W p l ev (zrM G i Mc Ms) s m args below meth c H' locs' (oc + nc') (os + ns') Q (F0 m pc' ls' (zst e' ad' st'))) →
  W p l ev (zrM G i Mc Ms) s m args below meth c H locs (oc + nc) (os + ns) Q (F0 m pc ls (zst e ad st))
theorem zSc_ad {rul : Nat → List zI} {ad ad' : Nat → Nat} {A : Nat → Prop} {U : State} {n : Nat} (hz : zaa n ad ad') (h : zSc rul ad A U) : zSc rul ad' A U := by
  obtain ⟨L, xs, h1, h2, h3, h4, h5, h6⟩ := h
  have e := hz.2 43 (Nat.le_refl _)
  exact ⟨L, xs, h1, h2, h3, by rw [e]; exact h4, by rw [e]; exact h5, by rw [e]; exact h6⟩
end
section
/-! ===== the constructors' walk is right ===== -/
section ZI
variable {l : Launch} {D : va_G} {cy : Nat → ClassId} {A : Nat → Prop} {sa : Nat → Nat} {G : zCf} {rul rc : Nat → List zI} {alc : Nat → zC}
theorem zgr_at (ad : Nat → Nat) (n : Nat) (es : va_W) {j : Nat} {x : Nat × va_E} (h : es[j]? = some x) : zgr ad n es (n + j) = x.1 := by
  unfold zgr
  rw [if_pos (by omega), show n + j - n = j by omega, h]
theorem zrul_cls {s : State} {cA cB : ClassId} {ty : FieldType} (h1 : va_RA s cA ty) (h2 : va_RA s cB ty) : cA = cB := by
  cases ty with
  | object C =>
    obtain ⟨_, _, _, _, _, g1⟩ := h1
    obtain ⟨_, _, _, _, _, g2⟩ := h2
    exact Option.some.inj (g1.symm.trans g2)
  | _ => exact Option.some.inj (Eq.trans (Eq.symm h1) h2)
/-- a callee's contract out of its walk -/
theorem zmi_of {n j : Nat} {as : List zA} {h : List zC} {kh : List zC → Bool} {e : Nat → Int} {ad : Nat → Nat} {ws : va_W} (HV : zOK) (hni : ¬ j = 119) (hrt : zret j = none) (hhh : zhh j = []) (hpn : plainName (zy j).cls = true) (IH : zIS l D cy A sa G rul rc alc n)
    (hk : zini G rc alc n j 0 (zent 0 as) [] h 0 0 (fun _ _ st' h' _ _ => decide (st' = []) && kh h') = true) (htg : ∀ a ∈ as, ¬ a.1 = 1) (hlen : as.length ≤ zmaxL j) (hwf : ∀ a ∈ as, zwf 0 a) (hwh : ∀ c ∈ h, ∀ a ∈ c.2.2.2.2, zwf 0 a) (hR : zHR rul cy e ad h ws) (hD : va_D A ws) (h43 : h.length ≤ 43) :
    zMi l D cy A sa G rul j kh h.length ad ws (zst e ad as) := by
  refine Met.ofW (cc := zcode j) (maxL := zmaxL j) (ret := zret j) (ws' := zTg) hpn (by unfold zws zcw; rw [if_pos hhh]) ?_
  intro p ev s m args below meth c s₁ B hml hv
  have hts := atoms_spec (ws := zws j) B.pre
  obtain ⟨⟨rfl, hP, hK, hF, hA⟩, hF2⟩ := hv
  have het : c.exceptionTable.toList = [] := by
    obtain ⟨meth9, c9, h1, h2, -, -, -, -, h7, -⟩ := Cond.code_spec B.named (show (Cond.code (zy j) (zcode j) (zmaxL j) (zret j)).before _ s = true by have := hts (zcw j) List.mem_cons_self; unfold zcw at this; rw [if_pos hhh] at this; exact this)
    cases Option.some.inj (h1.symm.trans B.method)
    cases Option.some.inj (h2.symm.trans (Stand.of_body B).code)
    rw [Array.isEmpty_iff.mp h7]
  have hat : zAt D cy A sa j p s m (zst e ad as).toArray meth c := ⟨B.exec, B.bytes, hml, findClass_of_methodNamed B.named, fun w hw => hts w (List.mem_cons_of_mem _ hw), hK, hF, B.notSynchronized, B.returns, by rw [if_pos hhh]; exact het, hA⟩
  have hnm : meth.name = (zy j).name := (name_of_methodNamed B.named B.method).1
  have hl := lv_entry (zst e ad as) (n := zmaxL j) (by rw [zlg_len e ad as htg]; exact hlen)
  rw [lg_entry_eq]
  generalize (lg_sl (zst e ad as) ++ List.replicate (zmaxL j - (lg_sl (zst e ad as)).length) Slot.unset).toArray = ls at hl ⊢
  rw [zlv_args e ad 0 as htg] at hl
  have hwe : ∀ (n : Nat) (l : List zA), (∀ a ∈ l, zwf 0 a) → ∀ q ∈ zent n l, zwf 0 q.2 := by
    intro n l
    induction l generalizing n with
    | nil => intro _ q hq; cases hq
    | cons a r ih =>
      intro hw q hq
      rcases List.mem_cons.mp hq with h1 | h1
      · rw [h1]; exact hw a List.mem_cons_self
      · exact ih (n + 1) (fun b hb => hw b (List.mem_cons_of_mem _ hb)) q h1
  have hb1 : zbc G j = G.2.2.1 j := by unfold zbc; rw [if_neg hni]
  have hb2 : zbs G j = G.2.2.2.1 j := by unfold zbs; rw [if_neg hni]
  have hw := IH j 0 (zent 0 as) [] h 0 0 _ hk p ev s m (zst e ad as).toArray below meth c (MQ below (va_Qv (S := zU) (fun u => kh u.2.2.1 = true) (zBi rul D cy A h.length ad) A) (zst e ad as).toArray s (G.2.2.1 j) (G.2.2.2.1 j) A) h.length ad e ad ws s.heap [] ls 0 0 (G.2.2.1 j) (G.2.2.2.1 j) hat (fun q => absurd q hni) hF2 hnm
    ⟨⟨fun v i hv => by simp at hv, fun q hq => (nomatch hq), fun q hq => (nomatch hq)⟩, hwe 0 as hwf, fun a ha => (nomatch ha), hwh, hR, hP, hD, va_S.rf, hl⟩ (zaa_rf _ _) (Nat.le_refl _) h43 (by rw [hb1]; omega) (by rw [hb2]; omega) (Nat.zero_le _) (Nat.zero_le _) ?_
  · exact hw
  · intro pc' lc' st' h' nc' ns' e' ad' ws' H' locs' ls' hk' hst hz hn hl43 hnc hns hi'
    simp only [Bool.and_eq_true, decide_eq_true_eq] at hk'
    obtain ⟨rfl, hk'⟩ := hk'
    rcases hst with ⟨o, ho, ho33⟩ | ⟨h1, -⟩
    · have hg := (HV j pc' o ho).1
      unfold zgd at hg
      simp only [ho33, decide_eq_true_eq] at hg
      refine W.widen (k := G.2.2.1 j) (n := G.2.2.2.1 j) (by omega) (by omega) ?_
      have hr := B.returns
      rw [hrt] at hr
      exact W.vret (hlocks := B.notSynchronized) B.exec B.bytes hr (fun t ht _ => ⟨⟨(ad', e', h', ws'), rfl, hk', hz, hn, hl43, hi'.2.2.2.1, hi'.2.2.2.2.1, hi'.2.2.2.2.2.2.1, by show va_P D vwCl ws' t.heap; rw [ht]; exact hi'.2.2.2.2.2.1⟩, hi'.2.2.2.2.2.2.2.1.F ht⟩) hi'.2.2.2.2.2.2.2.1.2.2 hg
    · exact absurd h1 hni
end ZI
end
section
/-! ===== the constructors' walk is right: its instructions ===== -/
section ZI
variable {l : Launch} {D : va_G} {cy : Nat → ClassId} {A : Nat → Prop} {sa : Nat → Nat} {G : zCf} {rul rc : Nat → List zI}
variable {i pc : Nat} {o : zO} {e : Nat → Int} {ad : Nat → Nat} {lc : zL} {st : List zA} {h : List zC} {S : zS} {ws : va_W} {H : Heap} {locs : List Loc} {ls : Array Slot} {p : Program} {ev : Env} {s : State} {m : MethodId} {args : Array Value} {below : List Frame} {meth : Method} {c : Code} {Q : State → Prop} {cells slots Mc Ms : Nat} {a b v : zA}
theorem zi_obj (hat : zAt D cy A sa i p s m args meth c) (hi : zInv rul D cy ad A (zmaxL i) s.heap e lc (a :: st) h S ws H locs ls) (hg : zgi i pc o = true) (ho : o.1 = 70) (ha : a.1 = 2) (r1 : 1 ≤ G.1 i) (r2 : zwords st + 12 ≤ G.2.1 i)
    (kk : W p l ev (zrM G i Mc Ms) s m args below meth c H locs cells slots Q (F0 m (pc + 3) ls (zst e ad st))) : W p l ev (zrM G i Mc Ms) s m args below meth c H locs cells slots Q (F0 m pc ls (zst e ad (a :: st))) := by
  obtain ⟨hx, hcb, hml, hown, hts, hK, hF, hlk, hr, het, hA⟩ := hat
  unfold zgi at hg
  simp only [ho, Bool.and_eq_true, decide_eq_true_eq] at hg
  show W p l ev (zrM G i Mc Ms) s m args below meth c H locs cells slots Q (F0 m pc ls (zval e ad a :: zst e ad st))
  rw [zval_2 ha]
  exact W.objInit hx hcb hown (hts _ (zwd_in hg.1.1.2)) (hts _ (zwd_in hg.1.2)) (hts _ (zwd_in hg.2)) (g := F0 m pc ls (.ref (ad a.2.2.1) :: zst e ad st)) rfl (hi.2.2.2.2.2.2.2.2.1.trans hml.symm) rfl hg.1.1.1 r1 (by show 2 * 0 + _ + 12 ≤ G.2.1 i; rw [zwords_ok]; omega) kk
theorem zi_new (hat : zAt D cy A sa i p s m args meth c) (hi : zInv rul D cy ad A (zmaxL i) s.heap e lc st h S ws H locs ls) (hcl : zCl) (hg : zgi i pc o = true) (ho : o.1 = 71) (h43 : h.length + 1 ≤ 43) (hk : zrkA h.length lc st h = true) (hc1 : cells + 1 ≤ Mc) (hs1 : slots + o.2.2.2.1 ≤ Ms)
    (kk : ∀ (ad' : Nat → Nat) (ws' : va_W) (H' : Heap), zaa h.length ad ad' → zInv rul D cy ad' A (zmaxL i) s.heap e lc ((2, 0, h.length, 0) :: st) (h ++ [(0, o.2.2.1, 0, 0, zdef o.2.2.1)]) S ws' H' locs ls → W p l ev (zrM G i Mc Ms) s m args below meth c H' locs (cells + 1) (slots + o.2.2.2.1) Q (F0 m (pc + 3) ls (zst e ad' ((2, 0, h.length, 0) :: st)))) : W p l ev (zrM G i Mc Ms) s m args below meth c H locs cells slots Q (F0 m pc ls (zst e ad st)) := by
  obtain ⟨hx, hcb, hml, hown, hts, hK, hF, hlk, hr, het, hA⟩ := hat
  unfold zgi at hg
  simp only [ho] at hg
  cases hv : vwCl[o.2.2.1]? with
  | none => rw [hv] at hg; cases hg
  | some r =>
    rw [hv] at hg
    simp only [Bool.and_eq_true, decide_eq_true_eq] at hg
    obtain ⟨⟨⟨⟨g1, g2⟩, g3⟩, g4⟩, g5⟩ := hg
    obtain ⟨c1, c2, c3⟩ := zcls hv
    have hci : o.2.2.1 < 5 := (List.getElem?_eq_some_iff.mp hv).1
    rw [g2] at hs1 kk
    refine va_new (D := D) hx hcb hts (hcl _ r hv).1 (zty o.2.2.1) c2 hown (hts _ (zwd_in g3)) (hts _ (zwd_in g4)) (hts _ (zwd_in g5)) hK hi.2.2.2.2.2.1 hi.2.2.2.2.2.2.1 hi.2.2.2.2.2.2.2.1 hA hv (fs := zst e ad (zdef o.2.2.1)) (fun j hj => zdef_V e ad hci j (by rw [← c1]; exact hj)) hc1 hs1 g1 fun q H1 hP1 hD1 hS1 => ?_
    obtain ⟨hI, hst⟩ := zI_grow (cs := [(0, o.2.2.1, 0, 0, zdef o.2.2.1)]) (es := [(q, .inr (o.2.2.1, zst e ad (zdef o.2.2.1)))]) hi rfl h43 hk (fun j c9 x hj hx9 => by
      match j, hj, hx9 with
      | 0, hj, hx9 =>
        cases hj; cases hx9
        show (Sum.inr (o.2.2.1, zst e ad (zdef o.2.2.1)) : va_E) = .inr (o.2.2.1, zst e _ (zdef o.2.2.1))
        exact congrArg (fun z => (Sum.inr (o.2.2.1, z) : va_E)) (zdef_st _ e ad _)
      | j + 1, hj, _ => simp at hj) (fun c9 hc9 => by rw [List.mem_singleton.mp hc9]; exact zdef_wf _ _) hP1 hD1 hS1
    have hz := zgr_aa (ad := ad) (n := h.length) (es := [(q, .inr (o.2.2.1, zst e ad (zdef o.2.2.1)))]) h43
    have := kk _ _ H1 hz (zI_cons hI (Or.inl rfl))
    have e1 : zst e (zgr ad h.length [(q, .inr (o.2.2.1, zst e ad (zdef o.2.2.1)))]) ((2, 0, h.length, 0) :: st) = .ref q :: zst e ad st := by
      show zval e _ (2, 0, h.length, 0) :: zst e _ st = _
      rw [hst, zval_2 rfl]
      have := zgr_at ad h.length [(q, .inr (o.2.2.1, zst e ad (zdef o.2.2.1)))] (j := 0) rfl
      rw [Nat.add_zero] at this
      show Value.ref (zgr ad h.length _ h.length) :: _ = _
      rw [this]
    rw [e1] at this
    exact this
theorem zi_newa {cA : zC} (hrl : ∀ r, r < 100 → rc r = rul r) (hat : zAt D cy A sa i p s m args meth c) (hi : zInv rul D cy ad A (zmaxL i) s.heap e lc (b :: st) h S ws H locs ls) (hg : zgi i pc o = true) (ho : o.1 = 72) (h43 : h.length + 1 ≤ 43) (hk : zrkA h.length lc st h = true) (hb : b = (0, 0, 0, (cA.2.2.1 : Int))) (hty : cA.2.1 = o.2.2.1) (hzz : zzr rc cA = true) (hlen : cA.2.2.1 ≤ 10000) (hc1 : cells + 1 ≤ Mc) (hs1 : slots + cA.2.2.1 ≤ Ms)
    (kk : ∀ (ad' : Nat → Nat) (ws' : va_W) (H' : Heap), zaa h.length ad ad' → zInv rul D cy ad' A (zmaxL i) s.heap e lc ((2, 0, h.length, 0) :: st) (h ++ [cA]) S ws' H' locs ls → W p l ev (zrM G i Mc Ms) s m args below meth c H' locs (cells + 1) (slots + cA.2.2.1) Q (F0 m (pc + 2) ls (zst e ad' ((2, 0, h.length, 0) :: st)))) : W p l ev (zrM G i Mc Ms) s m args below meth c H locs cells slots Q (F0 m pc ls (zst e ad (b :: st))) := by
  obtain ⟨hx, hcb, hml, hown, hts, hK, hF, hlk, hr, het, hA⟩ := hat
  unfold zgi at hg
  simp only [ho, Bool.or_eq_true, Bool.and_eq_true, decide_eq_true_eq] at hg
  subst hb
  show W p l ev (zrM G i Mc Ms) s m args below meth c H locs cells slots Q (F0 m pc ls (zval e ad (0, 0, 0, (cA.2.2.1 : Int)) :: zst e ad st))
  rw [zval_0 rfl, zv_c]
  have hn1 : ¬ Int32.ofInt (cA.2.2.1 : Int) < 0 := fun q => by
    rw [Int32.lt_iff_toInt_lt, z32_i ⟨by omega, by omega⟩] at q
    have : (0 : Int32).toInt = 0 := by decide
    omega
  have hn2 : (Int32.ofInt (cA.2.2.1 : Int)).toNatClampNeg = cA.2.2.1 := by rw [← Int32.toNat_toInt, z32_i ⟨by omega, by omega⟩]; rfl
  have fin : ∀ (q : Nat) (cB : ClassId) (H1 : Heap), cB = cy cA.2.1 → va_P D vwCl (ws ++ [(q, .inl (cB, zz0 cA))]) H1 → va_D A (ws ++ [(q, .inl (cB, zz0 cA))]) → va_S A s.heap H1 locs → W p l ev (zrM G i Mc Ms) s m args below meth c H1 locs (cells + 1) (slots + cA.2.2.1) Q (F0 m (pc + 2) ls (.ref q :: zst e ad st)) := by
    intro q cB H1 hcB hP1 hD1 hS1
    subst hcB
    obtain ⟨hI, hst⟩ := zI_grow (cs := [cA]) (es := [(q, .inl (cy cA.2.1, zz0 cA))]) (zI_tl hi) rfl h43 hk (fun j c9 x hj hx9 => by
      match j, hj, hx9 with
      | 0, hj, hx9 =>
        cases hj; cases hx9
        exact zzr_ok hrl hzz
      | j + 1, hj, _ => simp at hj) (fun c9 hc9 => by rw [List.mem_singleton.mp hc9]; exact zzr_wf hzz) hP1 hD1 hS1
    have hz := zgr_aa (ad := ad) (n := h.length) (es := [(q, .inl (cy cA.2.1, zz0 cA))]) h43
    have := kk _ _ H1 hz (zI_cons hI (Or.inl rfl))
    have e1 : zst e (zgr ad h.length [(q, .inl (cy cA.2.1, zz0 cA))]) ((2, 0, h.length, 0) :: st) = .ref q :: zst e ad st := by
      show zval e _ (2, 0, h.length, 0) :: zst e _ st = _
      rw [hst, zval_2 rfl]
      have := zgr_at ad h.length [(q, .inl (cy cA.2.1, zz0 cA))] (j := 0) rfl
      rw [Nat.add_zero] at this
      show Value.ref (zgr ad h.length _ h.length) :: _ = _
      rw [this]
    rw [e1] at this
    exact this
  have hkind : cA.1 = 4 ↔ cA.2.1 = 1 := by
    unfold zzr at hzz
    simp only [Bool.or_eq_true, Bool.and_eq_true, decide_eq_true_eq] at hzz
    rcases hzz with (⟨⟨⟨h1, h2, -, -⟩, -⟩, -⟩ | ⟨h1, h2, -⟩) | ⟨h1, h2, -⟩ <;> omega
  rcases hg with ⟨⟨g1, g2⟩, g3⟩ | ⟨⟨g1, g2⟩, g3⟩
  · refine va_newa (D := D) (ty := .int) hx hcb (hts _ (zwd_in g3)) rfl hK hi.2.2.2.2.2.1 hi.2.2.2.2.2.2.1 hi.2.2.2.2.2.2.2.1 hA (N' := cA.2.2.1) (a0 := zz0 cA) (fun cB => ?_) hn1 hn2 (by show cA.2.2.1 * 4 ≤ _; omega) hc1 hs1 g2 fun q cB H1 hK1 hP1 hD1 hS1 => fin q cB H1 ?_ hP1 hD1 hS1
    · unfold zz0
      rw [if_neg (by rw [hkind]; omega)]
      rfl
    · rw [hty, g1]
      exact zrul_cls (hK1.2 4 (cB, .int) rfl).2 (hK.2 0 (cy 0, .int) rfl).2
  · refine va_newa (D := D) (ty := .long) hx hcb (hts _ (zwd_in g3)) rfl hK hi.2.2.2.2.2.1 hi.2.2.2.2.2.2.1 hi.2.2.2.2.2.2.2.1 hA (N' := cA.2.2.1) (a0 := zz0 cA) (fun cB => ?_) hn1 hn2 (by show cA.2.2.1 * 8 ≤ _; omega) hc1 hs1 g2 fun q cB H1 hK1 hP1 hD1 hS1 => fin q cB H1 ?_ hP1 hD1 hS1
    · unfold zz0
      rw [if_pos (by rw [hkind]; omega)]
      rfl
    · rw [hty, g1]
      exact zrul_cls (hK1.2 4 (cB, .long) rfl).2 (hK.2 1 (cy 1, .long) rfl).2
theorem zi_anew (hat : zAt D cy A sa i p s m args meth c) (hF2 : zF2 s) (hi : zInv rul D cy ad A (zmaxL i) s.heap e lc (b :: st) h S ws H locs ls) (hg : zgi i pc o = true) (ho : o.1 = 73) (h43 : h.length + 1 ≤ 43) (hk : zrkA h.length lc st h = true) (hb : b = (0, 0, 0, 4)) (hc1 : cells + 1 ≤ Mc) (hs1 : slots + 4 ≤ Ms)
    (kk : ∀ (ad' : Nat → Nat) (ws' : va_W) (H' : Heap), zaa h.length ad ad' → zInv rul D cy ad' A (zmaxL i) s.heap e lc ((2, 0, h.length, 0) :: st) (h ++ [(3, 2, 4, 0, List.replicate 4 (3, 0, 0, 0))]) S ws' H' locs ls → W p l ev (zrM G i Mc Ms) s m args below meth c H' locs (cells + 1) (slots + 4) Q (F0 m (pc + 3) ls (zst e ad' ((2, 0, h.length, 0) :: st)))) : W p l ev (zrM G i Mc Ms) s m args below meth c H locs cells slots Q (F0 m pc ls (zst e ad (b :: st))) := by
  obtain ⟨hx, hcb, hml, hown, hts, hK, hF, hlk, hr, het, hA⟩ := hat
  unfold zgi at hg
  simp only [ho, Bool.and_eq_true, decide_eq_true_eq] at hg
  subst hb
  show W p l ev (zrM G i Mc Ms) s m args below meth c H locs cells slots Q (F0 m pc ls (zval e ad (0, 0, 0, 4) :: zst e ad st))
  rw [zval_0 rfl, zv_c]
  refine va_newq (D := D) hx hcb hown (hts _ (zwd_in hg.2)) hF2.1 hK hi.2.2.2.2.2.1 hi.2.2.2.2.2.2.1 hi.2.2.2.2.2.2.2.1 hA (N' := 4) (by decide) (by decide) (by decide) hc1 hs1 hg.1 fun q cB H1 hK1 hP1 hD1 hS1 => ?_
  have hcB : cB = cy 2 := zrul_cls (hK1.2 4 (cB, .object RX1) rfl).2 (hK.2 2 (cy 2, .object RX1) rfl).2
  subst hcB
  obtain ⟨hI, hst⟩ := zI_grow (cs := [(3, 2, 4, 0, List.replicate 4 (3, 0, 0, 0))]) (es := [(q, .inl (cy 2, 4, .inr (.inr (.inr (.inr (fun _ => none))))))]) (zI_tl hi) rfl h43 hk (fun j c9 x hj hx9 => by
    match j, hj, hx9 with
    | 0, hj, hx9 =>
      cases hj; cases hx9
      refine ⟨fun _ => none, rfl, rfl, fun j a ha => ?_⟩
      rw [List.eq_of_mem_replicate (List.mem_of_getElem? ha)]
      rfl
    | j + 1, hj, _ => simp at hj) (fun c9 hc9 a ha => by rw [List.mem_singleton.mp hc9] at ha; rw [List.eq_of_mem_replicate ha]; exact Or.inl rfl) hP1 hD1 hS1
  have hz := zgr_aa (ad := ad) (n := h.length) (es := [(q, .inl (cy 2, 4, .inr (.inr (.inr (.inr (fun _ => none))))))]) h43
  have := kk _ _ H1 hz (zI_cons hI (Or.inl rfl))
  have e1 : zst e (zgr ad h.length [(q, .inl (cy 2, 4, .inr (.inr (.inr (.inr (fun _ => none))))))]) ((2, 0, h.length, 0) :: st) = .ref q :: zst e ad st := by
    show zval e _ (2, 0, h.length, 0) :: zst e _ st = _
    rw [hst, zval_2 rfl]
    have := zgr_at ad h.length [(q, .inl (cy 2, 4, .inr (.inr (.inr (.inr (fun _ => none))))))] (j := 0) rfl
    rw [Nat.add_zero] at this
    show Value.ref (zgr ad h.length _ h.length) :: _ = _
    rw [this]
  rw [e1] at this
  exact this
theorem zi_mna {cI : zC} (hrl : ∀ r, r < 100 → rc r = rul r) (hat : zAt D cy A sa i p s m args meth c) (hF2 : zF2 s) (hi : zInv rul D cy ad A (zmaxL i) s.heap e lc (b :: a :: st) h S ws H locs ls) (hg : zgi i pc o = true) (ho : o.1 = 74) (h43 : h.length + 4 ≤ 43) (hk : zrkA h.length lc st h = true) (hb : b = (0, 0, 0, 401)) (ha : a = (0, 0, 0, 3)) (hzz : zzr rc cI = true) (hcI : cI.1 = 2 ∧ cI.2.2.1 = 401) (hc1 : cells + 4 ≤ Mc) (hs1 : slots + 1206 ≤ Ms)
    (kk : ∀ (ad' : Nat → Nat) (ws' : va_W) (H' : Heap), zaa h.length ad ad' → zInv rul D cy ad' A (zmaxL i) s.heap e lc ((2, 0, h.length, 0) :: st) (h ++ [(3, 3, 3, 0, [(2, 0, h.length + 1, 0), (2, 0, h.length + 2, 0), (2, 0, h.length + 3, 0)]), cI, cI, cI]) S ws' H' locs ls → W p l ev (zrM G i Mc Ms) s m args below meth c H' locs (cells + 4) (slots + 1206) Q (F0 m (pc + 4) ls (zst e ad' ((2, 0, h.length, 0) :: st)))) : W p l ev (zrM G i Mc Ms) s m args below meth c H locs cells slots Q (F0 m pc ls (zst e ad (b :: a :: st))) := by
  obtain ⟨hx, hcb, hml, hown, hts, hK, hF, hlk, hr, het, hA⟩ := hat
  unfold zgi at hg
  simp only [ho, Bool.and_eq_true, decide_eq_true_eq] at hg
  subst hb
  subst ha
  show W p l ev (zrM G i Mc Ms) s m args below meth c H locs cells slots Q (F0 m pc ls (zval e ad (0, 0, 0, 401) :: zval e ad (0, 0, 0, 3) :: zst e ad st))
  rw [zval_0 rfl, zval_0 rfl, zv_c, zv_c]
  have hty0 : cI.2.1 = 0 := by
    unfold zzr at hzz
    simp only [Bool.or_eq_true, Bool.and_eq_true, decide_eq_true_eq] at hzz
    rcases hzz with (⟨⟨⟨h1, h2, -, -⟩, -⟩, -⟩ | ⟨h1, h2, -⟩) | ⟨h1, h2, -⟩ <;> omega
  have hcy : s.vm.findClass (FieldType.array FieldType.int).toString = some (cy 0) := (hK.2 0 (cy 0, .int) rfl).2
  refine va_mna (D := D) (X := ws) (L := []) (f := fun _ => .inl (0, 0, .inl fun _ => 0)) (cy := cy 0) (ty := .int) (N' := 3) (K' := 401) (z := (401, .inl fun _ => 0)) hx hcb hown (hts _ (zwd_in hg.1.2)) hF2.2 (hts _ (zwd_in hg.2)) hcy hK (by simpa [va_pl] using hi.2.2.2.2.2.1) (by simpa [va_pl] using hi.2.2.2.2.2.2.1) hi.2.2.2.2.2.2.2.1 hA (by decide) (by decide) (by decide) (by decide) (by decide) (by decide) (by decide) rfl rfl hc1 hs1 (fun cB => arrV_new cB 401 (.int 0)) hg.1.1 fun q r cB H1 hinj hnot hK1 hP1 hD1 hS1 => ?_
  have hcB : cB = cy 3 := zrul_cls (hK1.2 4 (cB, .array .int) rfl).2 (hK.2 3 (cy 3, .array .int) rfl).2
  subst hcB
  have hes : (ws ++ [(q, (.inl (cy 3, 3, .inr (.inr (.inr (.inr (fun i => if i < 3 then some (r i) else none))))) : va_E))]) ++ va_pl ([] ++ (List.range 3).map r) (vr_up (fun _ => .inl (0, 0, .inl fun _ => 0)) ((List.range 3).map r) (.inl (cy 0, (401, .inl fun _ => 0)))) = ws ++ [(q, .inl (cy 3, 3, .inr (.inr (.inr (.inr (fun i => if i < 3 then some (r i) else none)))))), (r 0, .inl (cy 0, 401, .inl fun _ => 0)), (r 1, .inl (cy 0, 401, .inl fun _ => 0)), (r 2, .inl (cy 0, 401, .inl fun _ => 0))] := by
    rw [List.append_assoc]
    congr 1
    show (q, _) :: va_pl ((List.range 3).map r) _ = _
    congr 1
    unfold va_pl
    show [(r 0, _), (r 1, _), (r 2, _)] = _
    rw [vr_up_in (by simp [List.range_succ]), vr_up_in (by simp [List.range_succ]), vr_up_in (by simp [List.range_succ])]
  rw [hes] at hP1 hD1
  obtain ⟨E, hE⟩ : ∃ E : va_E, E = .inl (cy 0, 401, .inl fun _ => 0) := ⟨_, rfl⟩
  rw [← hE] at hP1 hD1
  obtain ⟨es, hesd⟩ : ∃ es : va_W, es = [(q, .inl (cy 3, 3, .inr (.inr (.inr (.inr (fun i => if i < 3 then some (r i) else none)))))), (r 0, E), (r 1, E), (r 2, E)] := ⟨_, rfl⟩
  rw [← hesd] at hP1 hD1
  have g0 : es[0]? = some (q, .inl (cy 3, 3, .inr (.inr (.inr (.inr (fun i => if i < 3 then some (r i) else none)))))) := by rw [hesd]; rfl
  have g1 : es[1]? = some (r 0, E) := by rw [hesd]; rfl
  have g2 : es[2]? = some (r 1, E) := by rw [hesd]; rfl
  have g3 : es[3]? = some (r 2, E) := by rw [hesd]; rfl
  have hel : es.length = 4 := by rw [hesd]; rfl
  have hcell : ∀ (ad' : Nat → Nat), zCR rul cy e ad' cI E := fun ad' => by
    have := zzr_ok (rul := rul) (cy := cy) (e := e) (ad := ad') hrl hzz
    have e9 : (Sum.inl (cy cI.2.1, zz0 cI) : va_E) = E := by
      rw [hE, hty0]
      unfold zz0
      rw [hcI.2, if_neg (by rw [hcI.1]; decide)]
    rw [e9] at this
    exact this
  obtain ⟨hI, hst⟩ := zI_grow (cs := [(3, 3, 3, 0, [(2, 0, h.length + 1, 0), (2, 0, h.length + 2, 0), (2, 0, h.length + 3, 0)]), cI, cI, cI]) (es := es) (zI_tl (zI_tl hi)) (by rw [hel]; rfl) (by rw [hel]; exact h43) hk (fun j c9 x hj hx9 => by
    match j, hj, hx9 with
    | 0, hj, hx9 =>
      cases hj
      rw [g0] at hx9
      cases hx9
      refine ⟨fun i => if i < 3 then some (r i) else none, rfl, rfl, fun j a ha => ?_⟩
      match j, ha with
      | 0, ha => cases ha; show some (r 0) = some (zgr ad h.length es (h.length + 1)); rw [zgr_at ad h.length es g1]
      | 1, ha => cases ha; show some (r 1) = some (zgr ad h.length es (h.length + 2)); rw [zgr_at ad h.length es g2]
      | 2, ha => cases ha; show some (r 2) = some (zgr ad h.length es (h.length + 3)); rw [zgr_at ad h.length es g3]
      | j + 3, ha => simp at ha
    | 1, hj, hx9 => cases hj; rw [g1] at hx9; cases hx9; exact hcell _
    | 2, hj, hx9 => cases hj; rw [g2] at hx9; cases hx9; exact hcell _
    | 3, hj, hx9 => cases hj; rw [g3] at hx9; cases hx9; exact hcell _
    | j + 4, hj, _ => simp at hj) (fun c9 hc9 a ha => by
      rcases List.mem_cons.mp hc9 with h9 | h9
      · rw [h9] at ha
        have ha : a ∈ [((2, 0, h.length + 1, 0) : zA), (2, 0, h.length + 2, 0), (2, 0, h.length + 3, 0)] := ha
        simp only [List.mem_cons, List.mem_nil_iff, or_false] at ha
        rcases ha with rfl | rfl | rfl <;> exact Or.inl rfl
      · have : c9 = cI := by
          simp only [List.mem_cons, List.mem_nil_iff, or_false] at h9
          rcases h9 with rfl | rfl | rfl <;> rfl
        rw [this] at ha
        exact zzr_wf hzz a ha) hP1 hD1 hS1
  have hz := zgr_aa (ad := ad) (n := h.length) (es := es) (by rw [hel]; exact h43)
  have := kk _ _ H1 hz (zI_cons hI (Or.inl rfl))
  have e1 : zst e (zgr ad h.length es) ((2, 0, h.length, 0) :: st) = .ref q :: zst e ad st := by
    show zval e _ (2, 0, h.length, 0) :: zst e _ st = _
    rw [hst, zval_2 rfl]
    have := zgr_at ad h.length es (j := 0) g0
    rw [Nat.add_zero] at this
    show Value.ref (zgr ad h.length es h.length) :: _ = _
    rw [this]
  rw [e1] at this
  exact this
end ZI
end
section
/-! ===== the constructors' walk is right: fields, arrays of objects, lengths ===== -/
section ZI
variable {l : Launch} {D : va_G} {cy : Nat → ClassId} {A : Nat → Prop} {sa : Nat → Nat} {G : zCf} {rul rc : Nat → List zI}
variable {i pc : Nat} {o : zO} {e : Nat → Int} {ad : Nat → Nat} {lc : zL} {st : List zA} {h : List zC} {S : zS} {ws : va_W} {H : Heap} {locs : List Loc} {ls : Array Slot} {p : Program} {ev : Env} {s : State} {m : MethodId} {args : Array Value} {below : List Frame} {meth : Method} {c : Code} {Q : State → Prop} {cells slots Mc Ms : Nat} {a b v : zA}
theorem zputX_ok {ci k : Nat} {z : FieldType} (hi : zSat rul e S) (hx : zputX ci k b z S = true) : narrow z (zval e ad b) = zval e ad b ∧ fits z (zval e ad b) = true := by
  unfold zputX at hx
  simp only [Bool.or_eq_true, Bool.and_eq_true, decide_eq_true_eq] at hx
  rcases hx with (⟨h1, h2⟩ | ⟨rfl, h2⟩) | ⟨⟨rfl, h2⟩, h3⟩
  · rw [zval_2 h2]
    cases z <;> first | exact ⟨rfl, rfl⟩ | cases h1
  · rw [zval_0 h2]
    exact ⟨rfl, rfl⟩
  · rw [zval_0 h2]
    obtain ⟨z1, z2⟩ := zin_ok hi.1 h3
    have hz3 : zv e b = 0 ∨ zv e b = 1 := by omega
    rcases hz3 with hz3 | hz3
    · rw [hz3]; exact ⟨by decide +kernel, by decide +kernel⟩
    · rw [hz3]; exact ⟨by decide +kernel, by decide +kernel⟩
theorem zi_put {len rr : Nat} {fs : List zA} (hat : zAt D cy A sa i p s m args meth c) (hnm : meth.name = (zy i).name) (hcl : zCl) (hi : zInv rul D cy ad A (zmaxL i) s.heap e lc (b :: a :: st) h S ws H locs ls) (hg : zgi i pc o = true) (ho : o.1 = 75) (ha : a.1 = 2) (hh : h[a.2.2.1]? = some (0, o.2.2.1, len, rr, fs)) (hf : o.2.2.2.1 < fs.length) (hx0 : zputX o.2.2.1 o.2.2.2.1 b (zty o.2.2.1 o.2.2.2.1) S = true)
    (kk : ∀ (ws' : va_W) (H' : Heap) (locs' : List Loc), zInv rul D cy ad A (zmaxL i) s.heap e lc st (h.set a.2.2.1 (0, o.2.2.1, len, rr, fs.set o.2.2.2.1 b)) S ws' H' locs' ls → W p l ev (zrM G i Mc Ms) s m args below meth c H' locs' cells slots Q (F0 m (pc + 3) ls (zst e ad st))) : W p l ev (zrM G i Mc Ms) s m args below meth c H locs cells slots Q (F0 m pc ls (zst e ad (b :: a :: st))) := by
  obtain ⟨hx, hcb, hml, hown, hts, hK, hF, hlk, hr, het, hA⟩ := hat
  unfold zgi at hg
  simp only [ho] at hg
  cases hv : vwCl[o.2.2.1]? with
  | none => rw [hv] at hg; cases hg
  | some r =>
    rw [hv] at hg
    simp only [Bool.and_eq_true, Bool.or_eq_true, decide_eq_true_eq] at hg
    obtain ⟨⟨⟨g1, g2⟩, g3⟩, g4⟩ := hg
    obtain ⟨c1, c2, c3⟩ := zcls hv
    obtain ⟨C, T, N⟩ := r
    show W p l ev (zrM G i Mc Ms) s m args below meth c H locs cells slots Q (F0 m pc ls (zval e ad b :: zval e ad a :: zst e ad st))
    rw [zval_2 ha]
    obtain ⟨E, q1, q2⟩ := hi.2.2.2.2.1.2 _ _ hh
    have q2 : E = .inr (o.2.2.1, zst e ad fs) := q2
    subst q2
    obtain ⟨hin, ty0, t1, t2⟩ := hcl o.2.2.1 _ hv
    have hn := zputX_ok (ad := ad) hi.1 hx0
    have hfl : o.2.2.2.1 < (zst e ad fs).length := by unfold zst; rw [List.length_map]; exact hf
    have fin : ∀ (H1 : Heap) (locs1 : List Loc), va_P D vwCl (ws.set a.2.2.1 (ad a.2.2.1, .inr (o.2.2.1, (zst e ad fs).set o.2.2.2.1 (zval e ad b)))) H1 → va_D A (ws.set a.2.2.1 (ad a.2.2.1, .inr (o.2.2.1, (zst e ad fs).set o.2.2.2.1 (zval e ad b)))) → va_S A s.heap H1 locs1 → W p l ev (zrM G i Mc Ms) s m args below meth c H1 locs1 cells slots Q (F0 m (pc + 3) ls (zst e ad st)) := by
      intro H1 locs1 hP1 hD1 hS1
      have hm := List.mem_of_getElem? hh
      have e1 : (zst e ad fs).set o.2.2.2.1 (zval e ad b) = zst e ad (fs.set o.2.2.2.1 b) := by unfold zst; rw [List.map_set]
      rw [e1] at hP1 hD1
      refine kk _ H1 locs1 (zI_hp (zI_tl (zI_tl hi)) (fun c9 hc9 x hx9 => ?_) (zHR_set hi.2.2.2.2.1 (show zCR rul cy e ad (0, o.2.2.1, len, rr, fs.set o.2.2.2.1 b) _ from rfl)) hP1 hD1 hS1)
      rcases List.mem_or_eq_of_mem_set hc9 with z | z
      · exact hi.2.2.2.1 c9 z x hx9
      · rw [z] at hx9
        rcases List.mem_or_eq_of_mem_set hx9 with y | y
        · exact hi.2.2.2.1 _ hm x y
        · rw [y]; exact zI_hd hi
    by_cases hfin : (T o.2.2.2.1).2.2.2 = false
    · exact va_put (D := D) hx hcb hts hin ty0 t1 t2 hown hK hi.2.2.2.2.2.1 hi.2.2.2.2.2.2.1 hi.2.2.2.2.2.2.2.1 _ q1 hv o.2.2.2.1 g2 (hts _ (zwd_in g3)) (fun _ q => q) hfin (c2 _ g2) hn.1 hn.2 hfl g1 fin
    · have g5 := g4.resolve_left hfin
      have hfin2 : (T o.2.2.2.1).2.2.2 = true := by
        cases h9 : (T o.2.2.2.1).2.2.2 with
        | true => rfl
        | false => exact absurd h9 hfin
      exact va_putF (D := D) hx hcb hts hin ty0 t1 t2 hown hK hi.2.2.2.2.2.1 hi.2.2.2.2.2.2.1 hi.2.2.2.2.2.2.2.1 _ q1 hv o.2.2.2.1 g2 (hts _ (zwd_in g3)) (fun _ q => q) hfin2 (hnm.trans g5.1) g5.2 (c2 _ g2) hn.1 hn.2 hfl g1 fin
theorem zi_ast {len rr dl dr : Nat} {fs ds : List zA} {j : Nat} (hat : zAt D cy A sa i p s m args meth c) (hi : zInv rul D cy ad A (zmaxL i) s.heap e lc (v :: b :: a :: st) h S ws H locs ls) (hg : zgi i pc o = true) (ho : o.1 = 76) (ha : a.1 = 2) (hv : v.1 = 2) (hh : h[a.2.2.1]? = some (3, 2, len, rr, fs)) (hd : h[v.2.2.1]? = some (0, 1, dl, dr, ds)) (hb : b = (0, 0, 0, (j : Int))) (hj : j < len) (hlen : len ≤ 100)
    (kk : ∀ (ws' : va_W) (H' : Heap) (locs' : List Loc), zInv rul D cy ad A (zmaxL i) s.heap e lc st (h.set a.2.2.1 (3, 2, len, rr, fs.set j v)) S ws' H' locs' ls → W p l ev (zrM G i Mc Ms) s m args below meth c H' locs' cells slots Q (F0 m (pc + 1) ls (zst e ad st))) : W p l ev (zrM G i Mc Ms) s m args below meth c H locs cells slots Q (F0 m pc ls (zst e ad (v :: b :: a :: st))) := by
  obtain ⟨hx, hcb, hml, hown, hts, hK, hF, hlk, hr, het, hA⟩ := hat
  unfold zgi at hg
  simp only [ho, decide_eq_true_eq] at hg
  show W p l ev (zrM G i Mc Ms) s m args below meth c H locs cells slots Q (F0 m pc ls (zval e ad v :: zval e ad b :: zval e ad a :: zst e ad st))
  have hb0 : b.1 = 0 := by rw [hb]
  rw [zval_2 ha, zval_2 hv, zval_0 hb0, hb, zv_c]
  obtain ⟨E, q1, f, q2, q3, q4⟩ := hi.2.2.2.2.1.2 _ _ hh
  subst q2
  have q3 : fs.length = len := q3
  obtain ⟨E2, r1, r2⟩ := hi.2.2.2.2.1.2 _ _ hd
  have r2 : E2 = .inr (1, zst e ad ds) := r2
  subst r2
  obtain ⟨y1, y2⟩ := zc_in (z := (j : Int)) (n := len) (by omega) (by omega) (by omega)
  have y2 : (Int32.ofInt (j : Int)).toNatClampNeg = j := y2
  obtain ⟨r, hr1⟩ : ∃ r, vwCl[1]? = some r := ⟨_, rfl⟩
  have hr0 : r.1 = RX1 := by cases hr1; rfl
  refine va_astq (D := D) (r := r) hx hcb hK hi.2.2.2.2.2.1 hi.2.2.2.2.2.2.1 hi.2.2.2.2.2.2.2.1 _ 2 _ 1 q1 (by rw [hr0]; rfl) r1 hr1 y1 hg fun H1 locs1 hP1 hD1 hS1 => ?_
  rw [y2] at hP1 hD1
  have hm := List.mem_of_getElem? hh
  refine kk _ H1 locs1 (zI_hp (zI_tl (zI_tl (zI_tl hi))) (zwf_set hi.2.2.2.1 (fun x hx9 => ?_)) (zHR_set hi.2.2.2.2.1 (show zCR rul cy e ad (3, 2, len, rr, fs.set j v) _ from ⟨_, rfl, by show (fs.set j v).length = len; rw [List.length_set]; exact q3, fun k x hk => ?_⟩)) hP1 hD1 hS1)
  · rcases List.mem_or_eq_of_mem_set hx9 with y | y
    · exact hi.2.2.2.1 _ hm x y
    · rw [y]; exact zI_hd hi
  · have hk : (fs.set j v)[k]? = some x := hk
    by_cases hkj : j = k
    · subst hkj
      rw [List.getElem?_set_self (by omega)] at hk
      cases hk
      rw [va_up_self, if_neg (by rw [hv]; decide)]
    · rw [List.getElem?_set_ne hkj] at hk
      rw [va_up_ne _ _ (fun q => hkj q.symm)]
      exact q4 k x hk
theorem zi_len {t len rr : Nat} {fs : List zA} (hat : zAt D cy A sa i p s m args meth c) (hi : zInv rul D cy ad A (zmaxL i) s.heap e lc (a :: st) h S ws H locs ls) (hg : zgi i pc o = true) (ho : o.1 = 77) (ha : a.1 = 2) (hh : h[a.2.2.1]? = some (t, 0, len, rr, fs)) (ht : t = 2 ∨ t = 1)
    (kk : zInv rul D cy ad A (zmaxL i) s.heap e lc ((0, 0, 0, (len : Int)) :: st) h S ws H locs ls → W p l ev (zrM G i Mc Ms) s m args below meth c H locs cells slots Q (F0 m (pc + 1) ls (zst e ad ((0, 0, 0, (len : Int)) :: st)))) : W p l ev (zrM G i Mc Ms) s m args below meth c H locs cells slots Q (F0 m pc ls (zst e ad (a :: st))) := by
  obtain ⟨hx, hcb, hml, hown, hts, hK, hF, hlk, hr, het, hA⟩ := hat
  unfold zgi at hg
  simp only [ho, decide_eq_true_eq] at hg
  show W p l ev (zrM G i Mc Ms) s m args below meth c H locs cells slots Q (F0 m pc ls (zval e ad a :: zst e ad st))
  rw [zval_2 ha]
  have hE : ∃ f : Nat → Int32, ws[a.2.2.1]? = some (ad a.2.2.1, .inl (cy 0, len, .inl f)) := by
    obtain ⟨E, q1, q2⟩ := hi.2.2.2.2.1.2 _ _ hh
    rcases ht with rfl | rfl
    · obtain ⟨f, q3, -, -⟩ := q2
      exact ⟨f, by rw [q1, q3]⟩
    · obtain ⟨f, q3, -, -⟩ := q2
      exact ⟨f, by rw [q1, q3]⟩
  obtain ⟨f, q1⟩ := hE
  have hk := kk (zI_cons (zI_tl hi) (Or.inl rfl))
  have e1 : zst e ad ((0, 0, 0, (len : Int)) :: st) = Value.int (Int32.ofInt (len : Int)) :: zst e ad st := by
    show zval e ad (0, 0, 0, (len : Int)) :: zst e ad st = _
    rw [zval_0 rfl, zv_c]
  rw [e1] at hk
  exact va_alen (D := D) hx hcb hK hi.2.2.2.2.2.1 _ 0 q1 rfl (v := Int32.ofInt (len : Int)) (by rw [Int32.ofInt_eq_ofNat]) hg hk
end ZI
end
section
/-! ===== the constructors' walk is right: calls, and all of it ===== -/
section ZI
variable {l : Launch} {D : va_G} {cy : Nat → ClassId} {A : Nat → Prop} {sa : Nat → Nat} {G : zCf} {rul rc : Nat → List zI} {alc : Nat → zC}
variable {i pc : Nat} {o : zO} {e : Nat → Int} {ad : Nat → Nat} {lc : zL} {st : List zA} {h : List zC} {ws : va_W} {H : Heap} {locs : List Loc} {ls : Array Slot} {p : Program} {ev : Env} {s : State} {m : MethodId} {args : Array Value} {below : List Frame} {meth : Method} {c : Code} {Q : State → Prop} {cells slots Mc Ms : Nat}
theorem zargI_in {q : List zA × List zA} (hq : zargI o st = some q) : (∀ b ∈ q.1, b ∈ st) ∧ ∀ b ∈ q.2, b ∈ st := by
  unfold zargI at hq
  by_cases h50 : o.1 = 50
  · rw [if_pos h50] at hq
    by_cases hn : o.2.2.2.1 ≤ st.length
    · rw [if_pos hn] at hq
      cases hq
      exact ⟨fun b hb => List.mem_of_mem_take (List.mem_reverse.mp hb), fun b hb => List.mem_of_mem_drop hb⟩
    · rw [if_neg hn] at hq
      cases hq
  · rw [if_neg h50] at hq
    cases st with
    | nil => cases hq
    | cons a r =>
      simp only at hq
      by_cases ha : a.1 = 2
      · rw [if_pos ha] at hq
        cases hq
        exact ⟨fun b hb => by rw [List.mem_singleton.mp hb]; exact List.mem_cons_self, fun b hb => List.mem_cons_of_mem _ hb⟩
      · rw [if_neg ha] at hq
        cases hq
theorem zi_call {q : List zA × List zA} {kh : List zC → Bool} (hat : zAt D cy A sa i p s m args meth c) (hF2 : zF2 s) (hi : zInv rul D cy ad A (zmaxL i) s.heap e lc st h ([], [], []) ws H locs ls) (hgc : o.1 = 50 ∨ o.1 = 51 → zgc i pc o = true) (hg : zgi i pc o = true) (ho : o.1 = 78 ∨ o.1 = 50) (hq : zargI o st = some q) (hok : zcok2 G i o.2.2.1 q = true) (hrt : zret o.2.2.1 = none) (hh : zhh o.2.2.1 = []) (hk : zrkA h.length lc q.2 h = true)
    (hM : zMi l D cy A sa G rul o.2.2.1 kh h.length ad ws (zst e ad q.1)) (hc1 : cells + G.2.2.1 o.2.2.1 ≤ Mc) (hs1 : slots + G.2.2.2.1 o.2.2.1 ≤ Ms)
    (kk : ∀ (e' : Nat → Int) (ad' : Nat → Nat) (h' : List zC) (ws' : va_W) (H' : Heap) (locs' : List Loc), kh h' = true → zaa h.length ad ad' → h.length ≤ h'.length → h'.length ≤ 43 → zInv rul D cy ad' A (zmaxL i) s.heap e' lc q.2 h' ([], [], []) ws' H' locs' ls → W p l ev (zrM G i Mc Ms) s m args below meth c H' locs' (cells + G.2.2.1 o.2.2.1) (slots + G.2.2.2.1 o.2.2.1) Q (F0 m (pc + 3) ls (zst e' ad' q.2))) :
    W p l ev (zrM G i Mc Ms) s m args below meth c H locs cells slots Q (F0 m pc ls (zst e ad st)) := by
  have hat2 := hat
  obtain ⟨hx, hcb, hml, hown, hts, hK, hF, hlk, hr, het, hA⟩ := hat2
  unfold zcok2 at hok
  simp only [Bool.and_eq_true, decide_eq_true_eq] at hok
  obtain ⟨⟨⟨⟨⟨-, k1⟩, k2⟩, k5⟩, -⟩, -⟩ := hok
  have hS := hi.2.2.2.2.2.2.2.1
  have hin := zargI_in hq
  have hpre : ∀ U : State, U.heap = H → s.WarmedH U.vm → zPi D cy A sa ws (zst e ad q.1) (zst e ad q.1).toArray U := fun U hU hW => ⟨⟨rfl, by rw [hU]; exact hi.2.2.2.2.2.1, va_K.moved hW.alike hK, zF_go hF hS hU hW, fun z hz => hA z (by rw [hU] at hz; exact Nat.le_trans hS.1 hz)⟩, zF2_mv hW.alike hF2⟩
  have hbl := zPi_bl D cy A sa ws (zst e ad q.1)
  have hwd : ((zst e ad q.2).map fun v => v.category).sum ≤ 8 := by rw [zwords_ok]; exact k5
  have hsz := hi.2.2.2.2.2.2.2.2.1
  have hrun : ∃ a : Array Value, va_Run p l ev (zrM G i Mc Ms) s m args below meth c H locs cells slots (G.2.2.1 o.2.2.1) (G.2.2.2.1 o.2.2.1) (F0 m pc ls (zst e ad st)) (zst e ad q.2) (va_Qv (S := zU) (fun u => kh u.2.2.1 = true) (zBi rul D cy A h.length ad) A a) A := by
    unfold zMi at hM
    unfold zargI at hq
    by_cases h50 : o.1 = 50
    · rw [if_pos h50] at hq
      by_cases hn : o.2.2.2.1 ≤ st.length
      · rw [if_pos hn] at hq
        cases hq
        have hsplit : zst e ad st = zst e ad (st.take o.2.2.2.1) ++ zst e ad (st.drop o.2.2.2.1) := by
          unfold zst
          rw [← List.map_append, List.take_append_drop]
        have hrev : (zst e ad (st.take o.2.2.2.1).reverse).reverse = zst e ad (st.take o.2.2.2.1) := by
          unfold zst
          rw [List.map_reverse, List.reverse_reverse]
        have hlen : (zst e ad (st.take o.2.2.2.1).reverse).length = o.2.2.2.1 := by
          unfold zst
          rw [List.length_map, List.length_reverse, List.length_take]
          omega
        have hgc2 := hgc (Or.inl h50)
        unfold zgc at hgc2
        rw [if_pos h50] at hgc2
        simp only [Bool.and_eq_true, decide_eq_true_eq] at hgc2
        obtain ⟨⟨⟨⟨⟨g1, g2⟩, g3⟩, g4⟩, g5⟩, g6⟩ := hgc2
        exact ⟨(zst e ad (st.take o.2.2.2.1).reverse).toArray, va_runS (As := zst e ad (st.take o.2.2.2.1).reverse) (rest := zst e ad (st.drop o.2.2.2.1)) ⟨hx, hcb, hml, hown, hts⟩ hM ⟨zcallB hat hh (zwd_in g2) (zwd_in g4) (zwd_in g5) g6 k1 k2, hts _ (zwd_in g3)⟩ ⟨hbl, hpre⟩ rfl hlen hsz (by show zst e ad st = _; rw [hrev]; exact hsplit) (lv_room hwd) g1 ⟨hc1, hs1⟩⟩
      · rw [if_neg hn] at hq
        cases hq
    · rw [if_neg h50] at hq
      have h78 : o.1 = 78 := ho.resolve_right h50
      cases st with
      | nil => cases hq
      | cons a r =>
        simp only at hq
        by_cases ha : a.1 = 2
        · rw [if_pos ha] at hq
          cases hq
          unfold zgi at hg
          simp only [h78, Bool.and_eq_true, decide_eq_true_eq] at hg
          obtain ⟨⟨⟨⟨⟨⟨g1, g2⟩, g3⟩, g4⟩, g5⟩, g6⟩, g7⟩ := hg
          have e0 : zst e ad [a] = [.ref (ad a.2.2.1)] := by show [zval e ad a] = _; rw [zval_2 ha]
          have hB := zcallB (G := G) (Mc := Mc) (Ms := Ms) hat hh (zwd_in g2) (zwd_in g4) (zwd_in g5) g6 k1 k2
          rw [hrt] at hB
          have hpre2 : ∀ U : State, U.heap = H → s.WarmedH U.vm → zPi D cy A sa ws (zst e ad [a]) (Value.ref (ad a.2.2.1) :: []).toArray U := fun U hU hW => by
            have := hpre U hU hW
            have e1 : ((Value.ref (ad a.2.2.1) :: []).toArray : Array Value) = (zst e ad [a]).toArray := by rw [e0]
            rw [e1]
            exact this
          exact ⟨(Value.ref (ad a.2.2.1) :: []).toArray, va_runI (b := ad a.2.2.1) (As := []) (rest := zst e ad r) (n := 0) ⟨hx, hcb, hml, hown, hts⟩ hM ⟨hB, g7, hts _ (zwd_in g3)⟩ ⟨hbl, hpre2⟩ rfl rfl hsz (by show zval e ad a :: zst e ad r = _; rw [zval_2 ha]; rfl) (lv_room hwd) g1 ⟨hc1, hs1⟩⟩
        · rw [if_neg ha] at hq
          cases hq
  obtain ⟨ar, hrun⟩ := hrun
  obtain ⟨n1, n2, n3, n4⟩ := zrkA_ok hk
  refine va_callv hrun hS (fun _ _ z => z) (fun _ z => z) fun u t H1 locs1 hH1 hvm hkh hB hsz1 hkp hS1 => ?_
  obtain ⟨ad', e', h', ws'⟩ := u
  obtain ⟨hz, hn, h43, hwf, hR, hD, hP⟩ := hB
  have hz : zaa h.length ad ad' := hz
  have ag : zag 0 e e' := fun v hv => absurd hv (Nat.not_lt_zero v)
  have est : zst e' ad' q.2 = zst e ad q.2 := (zst_ad hz n2).trans (zst_ag ag fun b hb => hi.2.2.1 b (hin.2 b hb))
  have elv : zlv e' ad' lc = zlv e ad lc := (zlv_ad hz n1).trans (zlv_ag ag hi.2.1)
  rw [← est]
  exact kk e' ad' h' ws' H1 locs1 hkh hz hn h43 ⟨⟨fun v i hv => by simp at hv, fun q hq => (nomatch hq), fun q hq => (nomatch hq)⟩, hi.2.1, fun b hb => hi.2.2.1 b (hin.2 b hb), hwf, hR, by rw [← hH1]; exact hP, hD, hS1, by rw [elv]; exact hi.2.2.2.2.2.2.2.2⟩
set_option maxHeartbeats 4000000 in
theorem zini_ok (hrl : ∀ r, r < 100 → rc r = rul r) (HV : zOK) (HI : zOKi) (hcl : zCl) : ∀ n : Nat, zIS l D cy A sa G rul rc alc n := by
  intro n
  induction n with
  | zero => intro i pc lc st h nc ns k hk; unfold zini at hk; cases hk
  | succ n IH =>
    intro i pc lc st h nc ns k hk p ev s m args below meth c Q n0 ad0 e ad ws H locs ls oc os Mc Ms hat hsc hF2 hnm hi hz0 hn0 h43 hoc hos hnc hns kk
    unfold zini at hk
    split at hk
    · cases hk
    · rename_i o ho
      obtain ⟨v1, v2, v3⟩ := HV i pc o ho
      have vi := HI i pc o ho
      by_cases c33 : o.1 = 33 ∨ (i = 119 ∧ pc = 23)
      · rw [if_pos c33] at hk
        refine kk pc lc st h nc ns e ad ws H locs ls hk ?_ hz0 hn0 h43 hnc hns hi
        rcases c33 with c | c
        · exact Or.inl ⟨o, ho, c⟩
        · exact Or.inr c
      rw [if_neg c33] at hk
      by_cases c70 : o.1 = 70
      · rw [if_pos c70] at hk
        split at hk
        · rename_i a r
          simp only [Bool.and_eq_true, decide_eq_true_eq] at hk
          obtain ⟨⟨⟨k1, k2⟩, k3⟩, k4⟩ := hk
          exact zi_obj hat hi vi c70 k1 k2 k3 (IH i (pc + 3) lc r h nc ns k k4 p ev s m args below meth c Q n0 ad0 e ad ws H locs ls oc os Mc Ms hat hsc hF2 hnm (zI_tl hi) hz0 hn0 h43 hoc hos hnc hns kk)
        · cases hk
      rw [if_neg c70] at hk
      by_cases c71 : o.1 = 71
      · rw [if_pos c71] at hk
        simp only [Bool.and_eq_true, decide_eq_true_eq] at hk
        obtain ⟨⟨⟨⟨k1, k2⟩, k3⟩, k4⟩, k5⟩ := hk
        refine zi_new hat hi hcl vi c71 k1 k2 (by omega) (by omega) fun ad' ws' H' hz hI => ?_
        rw [Nat.add_assoc oc nc, Nat.add_assoc os ns]
        exact IH i (pc + 3) lc _ _ (nc + 1) (ns + o.2.2.2.1) k k5 p ev s m args below meth c Q n0 ad0 e ad' ws' H' locs ls oc os Mc Ms hat (fun q => zSc_ad hz (hsc q)) hF2 hnm hI (zaa_tr hz0 hz hn0) (by rw [List.length_append]; omega) (by rw [List.length_append]; exact k1) hoc hos k3 k4 kk
      rw [if_neg c71] at hk
      by_cases c72 : o.1 = 72
      · rw [if_pos c72] at hk
        split at hk
        · rename_i b r
          simp only [Bool.and_eq_true, decide_eq_true_eq] at hk
          obtain ⟨⟨⟨⟨⟨⟨⟨⟨k1, k2⟩, k3⟩, k4⟩, k5⟩, k6⟩, k7⟩, k8⟩, k9⟩ := hk
          refine zi_newa (cA := alc h.length) hrl hat hi vi c72 k1 k2 k3 k4 k5 k6 (by omega) (by omega) fun ad' ws' H' hz hI => ?_
          rw [Nat.add_assoc oc nc, Nat.add_assoc os ns]
          exact IH i (pc + 2) lc _ _ (nc + 1) (ns + (alc h.length).2.2.1) k k9 p ev s m args below meth c Q n0 ad0 e ad' ws' H' locs ls oc os Mc Ms hat (fun q => zSc_ad hz (hsc q)) hF2 hnm hI (zaa_tr hz0 hz hn0) (by rw [List.length_append]; omega) (by rw [List.length_append]; exact k1) hoc hos k7 k8 kk
        · cases hk
      rw [if_neg c72] at hk
      by_cases c73 : o.1 = 73
      · rw [if_pos c73] at hk
        split at hk
        · rename_i b r
          simp only [Bool.and_eq_true, decide_eq_true_eq] at hk
          obtain ⟨⟨⟨⟨⟨k1, k2⟩, k3⟩, k4⟩, k5⟩, k6⟩ := hk
          refine zi_anew hat hF2 hi vi c73 k1 k2 k3 (by omega) (by omega) fun ad' ws' H' hz hI => ?_
          rw [Nat.add_assoc oc nc, Nat.add_assoc os ns]
          exact IH i (pc + 3) lc _ _ (nc + 1) (ns + 4) k k6 p ev s m args below meth c Q n0 ad0 e ad' ws' H' locs ls oc os Mc Ms hat (fun q => zSc_ad hz (hsc q)) hF2 hnm hI (zaa_tr hz0 hz hn0) (by rw [List.length_append]; omega) (by rw [List.length_append]; exact k1) hoc hos k4 k5 kk
        · cases hk
      rw [if_neg c73] at hk
      by_cases c74 : o.1 = 74
      · rw [if_pos c74] at hk
        split at hk
        · rename_i b a r
          simp only [Bool.and_eq_true, decide_eq_true_eq] at hk
          obtain ⟨⟨⟨⟨⟨⟨⟨⟨k1, k2⟩, k3⟩, k4⟩, k5⟩, k6⟩, k7⟩, k8⟩, k9⟩ := hk
          refine zi_mna (cI := alc (h.length + 1)) hrl hat hF2 hi vi c74 k1 k2 k3 k4 k5 k6 (by omega) (by omega) fun ad' ws' H' hz hI => ?_
          rw [Nat.add_assoc oc nc, Nat.add_assoc os ns]
          exact IH i (pc + 4) lc _ _ (nc + 4) (ns + 1206) k k9 p ev s m args below meth c Q n0 ad0 e ad' ws' H' locs ls oc os Mc Ms hat (fun q => zSc_ad hz (hsc q)) hF2 hnm hI (zaa_tr hz0 hz hn0) (by rw [List.length_append]; omega) (by rw [List.length_append]; exact k1) hoc hos k7 k8 kk
        · cases hk
      rw [if_neg c74] at hk
      by_cases c75 : o.1 = 75
      · rw [if_pos c75] at hk
        split at hk
        · rename_i b a r
          split at hk
          · rename_i c9 hc9
            simp only [Bool.and_eq_true, decide_eq_true_eq] at hk
            obtain ⟨⟨⟨k1, k2, k3, k4⟩, k5⟩, k6⟩ := hk
            obtain ⟨t, ci, len, rr, fs⟩ := c9
            have k2 : t = 0 := k2
            have k3 : ci = o.2.2.1 := k3
            subst k2
            subst k3
            refine zi_put hat hnm hcl hi vi c75 k1 hc9 k4 k5 fun ws' H' locs' hI => ?_
            exact IH i (pc + 3) lc r _ nc ns k k6 p ev s m args below meth c Q n0 ad0 e ad ws' H' locs' ls oc os Mc Ms hat hsc hF2 hnm hI hz0 (by rw [List.length_set]; exact hn0) (by rw [List.length_set]; exact h43) hoc hos hnc hns kk
          · cases hk
        · cases hk
      rw [if_neg c75] at hk
      by_cases c76 : o.1 = 76
      · rw [if_pos c76] at hk
        split at hk
        · rename_i v b a r
          split at hk
          · rename_i c9 hc9
            split at hk
            · rename_i d9 hd9
              simp only [Bool.and_eq_true, decide_eq_true_eq] at hk
              obtain ⟨⟨⟨k1, k2, k3, k4, k5, k6⟩, k7, k8, k9, k10, k11, k12⟩, k13⟩ := hk
              obtain ⟨t, ci, len, rr, fs⟩ := c9
              obtain ⟨t2, ci2, len2, rr2, fs2⟩ := d9
              obtain ⟨b1, b2, b3, b4⟩ := b
              have k3 : t = 3 := k3
              have k4 : ci = 2 := k4
              have k5 : t2 = 0 := k5
              have k6 : ci2 = 1 := k6
              have k7 : b1 = 0 := k7
              have k8 : b2 = 0 := k8
              have k9 : b3 = 0 := k9
              subst k3; subst k4; subst k5; subst k6; subst k7; subst k8; subst k9
              refine zi_ast (j := b4.toNat) hat hi vi c76 k1 k2 hc9 hd9 (by rw [Int.toNat_of_nonneg k10]) k11 k12 fun ws' H' locs' hI => ?_
              exact IH i (pc + 1) lc r _ nc ns k k13 p ev s m args below meth c Q n0 ad0 e ad ws' H' locs' ls oc os Mc Ms hat hsc hF2 hnm hI hz0 (by rw [List.length_set]; exact hn0) (by rw [List.length_set]; exact h43) hoc hos hnc hns kk
            · cases hk
          · cases hk
        · cases hk
      rw [if_neg c76] at hk
      by_cases c77 : o.1 = 77
      · rw [if_pos c77] at hk
        split at hk
        · rename_i a r
          split at hk
          · rename_i c9 hc9
            simp only [Bool.and_eq_true, decide_eq_true_eq] at hk
            obtain ⟨⟨k1, k2, k3, k4⟩, k5⟩ := hk
            obtain ⟨t, ci, len, rr, fs⟩ := c9
            have k3 : ci = 0 := k3
            subst k3
            exact zi_len hat hi vi c77 k1 hc9 k2 fun hI => IH i (pc + 1) lc _ h nc ns k k5 p ev s m args below meth c Q n0 ad0 e ad ws H locs ls oc os Mc Ms hat hsc hF2 hnm hI hz0 hn0 h43 hoc hos hnc hns kk
          · cases hk
        · cases hk
      rw [if_neg c77] at hk
      by_cases c78 : o.1 = 78 ∨ o.1 = 50
      · rw [if_pos c78] at hk
        split at hk
        · rename_i q hq
          simp only [Bool.and_eq_true, decide_eq_true_eq] at hk
          obtain ⟨⟨⟨⟨⟨⟨k1, k2⟩, k3⟩, k4⟩, k5⟩, k6⟩, k7⟩ := hk
          have hok := k1
          unfold zcok2 at hok
          simp only [Bool.and_eq_true, decide_eq_true_eq] at hok
          obtain ⟨⟨⟨⟨⟨g0, -⟩, -⟩, -⟩, g4⟩, g5⟩ := hok
          have hin := zargI_in hq
          have hM := zmi_of (l := l) (D := D) (cy := cy) (A := A) (sa := sa) (G := G) (rul := rul) (rc := rc) (alc := alc) (n := n) (j := o.2.2.1) (as := q.1) (h := h) (kh := fun h' => zini G rc alc n i (pc + 3) lc q.2 h' (nc + G.2.2.1 o.2.2.1) (ns + G.2.2.2.1 o.2.2.1) k) (e := e) (ad := ad) (ws := ws) HV g5 k5.1 k5.2 k6 IH k7 (fun a ha => of_decide_eq_true (List.all_eq_true.mp g0 a ha)) g4 (fun a ha => hi.2.2.1 a (hin.1 a ha)) hi.2.2.2.1 hi.2.2.2.2.1 hi.2.2.2.2.2.2.1 h43
          refine zi_call hat hF2 hi v2 vi c78 hq k1 k5.1 k5.2 k4 hM (by omega) (by omega) fun e' ad' h' ws' H' locs' hkh hz hn h43' hI => ?_
          rw [Nat.add_assoc oc nc, Nat.add_assoc os ns]
          exact IH i (pc + 3) lc q.2 h' _ _ k hkh p ev s m args below meth c Q n0 ad0 e' ad' ws' H' locs' ls oc os Mc Ms hat (fun q => zSc_ad hz (hsc q)) hF2 hnm hI (zaa_tr hz0 hz hn0) (by omega) h43' hoc hos k2 k3 kk
        · cases hk
      rw [if_neg c78] at hk
      split at hk
      · rename_i t hs
        simp only [Bool.and_eq_true, decide_eq_true_eq] at hk
        obtain ⟨⟨k1, k2⟩, k3⟩ := hk
        refine zsucc_ok (R := zrM G i Mc Ms) hrl hsc hat.1 hat.2.1 hat.2.2.1 hat.2.2.2.1 hat.2.2.2.2.1 hcl hat.2.2.2.2.2.1 v1 hs hi fun t9 ht e' ws' H' locs' ls' ag len hi' => ?_
        have ht : t9 = t := List.mem_singleton.mp ht
        subst ht
        have k1 : t9.2.2.2.2 = ([], [], []) := Prod.ext (List.length_eq_zero_iff.mp k1.1) (Prod.ext (List.length_eq_zero_iff.mp k1.2.1) (List.length_eq_zero_iff.mp k1.2.2))
        rw [k1] at hi'
        exact IH i _ _ _ _ nc ns k k3 p ev s m args below meth c Q n0 ad0 e' ad ws' H' locs' ls' oc os Mc Ms hat hsc hF2 hnm hi' hz0 (by rw [k2]; exact hn0) (by rw [k2]; exact h43) hoc hos hnc hns kk
      · cases hk
end ZI
end
section
/-! ===== the constructors' listings are the code's, and the law's first part is run ===== -/
def zoki (i : Nat) : Bool := (zopl i).all (fun q => zgi i q.1 q.2)
theorem zoki_0 : zoki 0 = true := by decide +kernel
theorem zoki_35 : zoki 35 = true := by decide +kernel
theorem zoki_77 : zoki 77 = true := by decide +kernel
theorem zoki_92 : zoki 92 = true := by decide +kernel
theorem zoki_95 : zoki 95 = true := by decide +kernel
theorem zoki_118 : zoki 118 = true := by decide +kernel
theorem zoki_119 : zoki 119 = true := by decide +kernel
def zoku (i : Nat) : Bool := decide (i ∈ [0, 35, 77, 92, 95, 118, 119]) || (zopl i).all (fun q => decide (q.2.1 < 70))
theorem zoku_all : (List.range 120).all zoku = true := by decide +kernel
theorem zgi_lt {i pc : Nat} {o : zO} (h : o.1 < 70) : zgi i pc o = true := by
  unfold zgi
  split <;> first | rfl | omega
theorem zoki_all : zOKi := by
  intro i pc o ho
  by_cases h : i < 120
  · have hu := List.all_eq_true.mp zoku_all i (List.mem_range.mpr h)
    unfold zoku at hu
    simp only [Bool.or_eq_true, decide_eq_true_eq] at hu
    rcases hu with hu | hu
    · have hz : zoki i = true := by
        simp only [List.mem_cons, List.mem_nil_iff, or_false] at hu
        rcases hu with rfl | rfl | rfl | rfl | rfl | rfl | rfl
        · exact zoki_0
        · exact zoki_35
        · exact zoki_77
        · exact zoki_92
        · exact zoki_95
        · exact zoki_118
        · exact zoki_119
      exact List.all_eq_true.mp hz _ (zopf_mem ho)
    · exact zgi_lt (of_decide_eq_true (List.all_eq_true.mp hu _ (zopf_mem ho)))
  · have h3 : zopl i = [] := by
      unfold zopl
      split <;> first | rfl | omega
    rw [h3] at ho
    cases ho
/-- the n-th cell, when it is new -/
def zalc (n : Nat) : zC := match zHL[n]? with
  | some c => (c.1, c.2.1, c.2.2.1, c.2.2.2.1, if c.1 = 2 then (if c.2.2.2.1 = 2 then [(0, 0, 0, 0)] else []) else if c.1 = 1 then List.replicate c.2.2.1 (0, 0, 0, 0) else List.replicate c.2.2.1 (1, 0, 0, 0))
  | none => (9, 0, 0, 0, [])
def zthI (lc : zL) (h : List zC) : Nat → zA := ztf (zthk 0 zcu119_23.2.2.1 (zprs zcu119_23.1 lc [] [] zcu119_23.2.1 h))
/-- the law's first part ends in the picture of its loop's head -/
def zli : zKi := fun pc lc st h nc ns => decide (pc = 23) && decide (st = []) && decide (nc ≤ 43) && decide (ns ≤ 17734) && zmt (zthI lc h) ([], [], []) lc [] h zcu119_23.1 [] zcu119_23.2.1 zcu119_23.2.2.1 && zcu119_23.2.2.2.2.2.2.all (fun q => decide (zsb (zthI lc h) q.1 = (0, 0, 0, 0)) && decide (zsb (zthI lc h) q.2 = (0, 0, 0, 0)) && zpl zcu119_23.2.2.1.length q.1 && zpl zcu119_23.2.2.1.length q.2)
theorem zli_run : zini zG zRul zalc 400 119 0 [(0, (2, 0, 43, 0))] [] [] 0 0 zli = true := by decide +kernel
end
section
/-! ===== what holds at the law's start ===== -/
def R_law : String := "LeaseQueueLaw"
def lw_P (b : Addr) (xs : List Int32) (args : Array Value) (s : State) : Prop := args = #[.ref b] ∧ s.IntsAt b xs ∧ xs.length ≤ 3072 ∧ (Jvm.Cond.and given_1 narrow_1).before args s = true
def lw_Q (_ : Array Value) (s : State) (o : Outcome) (t : State) : Prop := o = .returned (some (.int 1)) ∧ Framed s o t [] 601024 7293034
def lw_Z (below : List Frame) (a : Array Value) (s : State) : State → Prop := fun t => ∃ o, t.status = .running ∧ Ended t below o ∧ lw_Q a s o t
def lw_At (p : Program) (s : State) (m : MethodId) (meth : Method) (c : Code) (b L : Nat) (xs : Nat → Int32) : Prop :=
  p.tables.exec = Jvm.exec ∧ c.code = code ∧ meth.sig.returnType = ret ∧ c.maxLocals = 7 ∧ s.vm.findClass R_law = some m.cls ∧ (∀ w ∈ lw_tbl, w.before #[Value.ref b] s = true) ∧ va_X b L xs s s.heap ∧ b < s.heap.size ∧ meth.locks = false ∧ (Jvm.Cond.and given_1 narrow_1).before #[Value.ref b] s = true
theorem zinst : ∀ r ∈ vwCl, Cond.instantiable r.1 r.2.2 ∈ lw_tbl := by decide +kernel
section ZB
variable {s : State} {b : Nat}
theorem zb_D (hts : ∀ w ∈ lw_tbl, w.before #[Value.ref b] s = true) : ∃ D : va_G, ∀ (k : Nat) (q : vw_C), vwCl[k]? = some q → u_Kn s q.1 q.2.1 q.2.2 (D.1 k) (D.2 k) := by
  have key : ∀ (k : Nat) (q : vw_C), vwCl[k]? = some q → ∃ (cC : ClassId) (iS : Nat → Nat), u_Kn s q.1 q.2.1 q.2.2 cC iS := fun k q hq => u_known (ws := zTg) (fun w hw => hts w (List.mem_filter.mp hw).1) (zcl_ok k q hq).1 (hts (.instantiable q.1 q.2.2) (zinst q (List.mem_of_getElem? hq)))
  obtain ⟨c0, i0, k0⟩ := key 0 _ rfl
  obtain ⟨c1, i1, k1⟩ := key 1 _ rfl
  obtain ⟨c2, i2, k2⟩ := key 2 _ rfl
  obtain ⟨c3, i3, k3⟩ := key 3 _ rfl
  obtain ⟨c4, i4, k4⟩ := key 4 _ rfl
  refine ⟨(fun k => if k = 0 then c0 else if k = 1 then c1 else if k = 2 then c2 else if k = 3 then c3 else c4, fun k => if k = 0 then i0 else if k = 1 then i1 else if k = 2 then i2 else if k = 3 then i3 else i4), fun k q hq => ?_⟩
  match k, hq with
  | 0, hq => cases hq; exact k0
  | 1, hq => cases hq; exact k1
  | 2, hq => cases hq; exact k2
  | 3, hq => cases hq; exact k3
  | 4, hq => cases hq; exact k4
  | n + 5, hq => simp at hq
theorem zb_K (hts : ∀ w ∈ lw_tbl, w.before #[Value.ref b] s = true) : ∃ (D : va_G) (cy : Nat → ClassId), va_K D vwCl (ztys cy) s := by
  obtain ⟨D, hD⟩ := zb_D hts
  obtain ⟨a0, k0, p0, f0, g0, h0⟩ := Cond.arrayClass_spec (hts (.arrayClass .int) (by decide +kernel))
  obtain ⟨a1, k1, p1, f1, g1, h1⟩ := Cond.arrayClass_spec (hts (.arrayClass .long) (by decide +kernel))
  obtain ⟨p2, a2, k2, e2, -, g2, h2, f2⟩ := Cond.arrayOver_spec (hts (.arrayOver (.object RX1)) (by decide +kernel))
  obtain ⟨p3, a3, k3, e3, -, g3, h3, f3⟩ := zoa_spec (hts (.arrayOver (.array .int)) (by decide +kernel))
  refine ⟨D, fun k => if k = 0 then a0 else if k = 1 then a1 else if k = 2 then a2 else a3, hD, fun k q hq => ?_⟩
  match k, hq with
  | 0, hq => cases hq; exact ⟨fun n z => ⟨(fun q hq => by cases hq), k0, g0, p0, h0⟩, f0⟩
  | 1, hq => cases hq; exact ⟨fun n z => ⟨(fun q hq => by cases hq), k1, g1, p1, h1⟩, f1⟩
  | 2, hq => cases hq; exact ⟨fun n z => ⟨(fun q hq => by cases hq), k2, g2, p2, h2⟩, k2, p2, g2, h2, e2, f2⟩
  | 3, hq => cases hq; exact ⟨fun n z => ⟨(fun q hq => by cases hq), k3, g3, p3, h3⟩, f3⟩
  | n + 4, hq => simp [ztys] at hq
theorem zb_F2 (hts : ∀ w ∈ lw_tbl, w.before #[Value.ref b] s = true) : zF2 s := ⟨va_AO.of (hts (.arrayOver (.object RX1)) (by decide +kernel)), hts (.arrayOver (.array .int)) (by decide +kernel)⟩
theorem zb_F {A : Nat → Prop} (hts : ∀ w ∈ lw_tbl, w.before #[Value.ref b] s = true) (hgv : (Jvm.Cond.and given_1 narrow_1).before #[Value.ref b] s = true) (hA : ∀ a : Nat, a < s.heap.size → ¬ A a) : ∃ sa : Nat → Nat, zF sa A s := by
  have hgf := flat_of_before _ hgv
  obtain ⟨a0, _, _, _, e0, -⟩ := Cond.exactly_spec (hgf (Cond.exactly (.string RX3 210) "java/lang/String") (by decide +kernel))
  obtain ⟨a1, _, _, _, e1, -⟩ := Cond.exactly_spec (hgf (Cond.exactly (.string RX3 105) "java/lang/String") (by decide +kernel))
  obtain ⟨a2, _, _, _, e2, -⟩ := Cond.exactly_spec (hgf (Cond.exactly (.string RX3 68) "java/lang/String") (by decide +kernel))
  refine ⟨fun x => if x = 0 then a0 else if x = 1 then a1 else a2, fun x hx => ?_, ?_, ?_, fun w hw => ?_, fun q hq => ?_⟩
  · match x, hx with
    | 0, _ => exact vk_R.of (hts (.stringRef RX3 210 (ztx 0)) (by decide +kernel)) e0
    | 1, _ => exact vk_R.of (hts (.stringRef RX3 105 (ztx 1)) (by decide +kernel)) e1
    | 2, _ => exact vk_R.of (hts (.stringRef RX3 68 (ztx 2)) (by decide +kernel)) e2
    | n + 3, h => omega
  · exact vx_Zqof (hts (.laysStatic Bundle.tN "UNASSIGNED_STACK" Bundle.steD) (by decide +kernel)) (hts (.initialized Bundle.tN) (by decide +kernel)) (hgf (Cond.isRef (.static Bundle.tN "UNASSIGNED_STACK" Bundle.steD)) (by decide +kernel)) hA
  · exact vx_Zqof (hts (.laysStatic Bundle.tN "SUPPRESSED_SENTINEL" Bundle.listD) (by decide +kernel)) (hts (.initialized Bundle.tN) (by decide +kernel)) (hgf (Cond.isRef (.static Bundle.tN "SUPPRESSED_SENTINEL" Bundle.listD)) (by decide +kernel)) hA
  · have hw2 := List.mem_filter.mp hw
    exact va_Nw.of (by have hz := hw2.2; cases w <;> first | rfl | (simp [zFx] at hz)) (hts w hw2.1)
  · unfold zncs at hq
    rcases List.mem_cons.mp hq with rfl | hq
    · exact va_Nc.of (hgf (Cond.not (.castable (zen 2) (zen 0))) (by decide +kernel))
    · rw [List.mem_singleton.mp hq]
      exact va_Nc.of (hgf (Cond.not (.castable (zen 1) (zen 0))) (by decide +kernel))
end ZB
theorem zforget {s t : State} {L : List Loc} {k n : Nat} (h : s.sameButNew t L k n) (hf : ∀ q ∈ L, s.heap.size ≤ q.base) : s.sameButNew t [] k n := by
  refine ⟨h.1, h.2.1, h.2.2.1, h.2.2.2.1, h.2.2.2.2.1, fun a c hc => ?_⟩
  obtain ⟨c', h1, h2, h3, h4⟩ := h.2.2.2.2.2 a c hc
  refine ⟨c', h1, h2, h3, fun i _ => h4 i (fun hm => ?_)⟩
  have h5 : s.heap.size ≤ a := hf _ hm
  have h6 := (Array.getElem?_eq_some_iff.mp hc).1
  omega
end
section
/-! ===== THE LAW, from its entry ===== -/
theorem zroom : room_1 = zrM zG 119 601024 7293034 := rfl
theorem zcode_law : code = zcode 119 := rfl
def zruS (L : Nat) (xs : Nat → Int32) (r : Nat) : List zI := if r = 100 then (List.range L).map (fun j => ((xs j).toInt, (xs j).toInt)) else if r = 101 then [((L : Int), (L : Int))] else zRul r
set_option maxHeartbeats 4000000 in
theorem whole_start {p : Program} {e : Env} {s : State} {m : MethodId} {below : List Frame} {meth : Method} {c : Code} (l : Launch) (hl0 : l.stackTraces = false) (het : c.exceptionTable.toList = []) (hnm : meth.name = "law") {b L : Nat} {xs : Nat → Int32} (hL : L ≤ 3072) (C0 : lw_At p s m meth c b L xs) : W p l e room_1 s m #[Value.ref b] below meth c s.heap [] 0 0 (lw_Z below #[Value.ref b] s) (entryFrame m ([Value.ref b] : List Value).toArray 7) := by
  obtain ⟨hx, hb, hr, hml, hown, hts, hX, hbl, hlocks, hgv⟩ := C0
  rw [zroom]
  obtain ⟨A, hAd⟩ : ∃ A : Nat → Prop, A = fun q => s.heap.size ≤ q := ⟨_, rfl⟩
  have hA : ∀ q : Nat, s.heap.size ≤ q → A q := fun q hq => by rw [hAd]; exact hq
  have hA2 : ∀ q : Nat, A q → s.heap.size ≤ q := fun q hq => by rw [hAd] at hq; exact hq
  have hA3 : ∀ q : Nat, q < s.heap.size → ¬ A q := fun q hq h => by have := hA2 q h; omega
  obtain ⟨D, cy, hK⟩ := zb_K hts
  obtain ⟨sa, hF⟩ := zb_F (A := A) hts hgv hA3
  have hF2 := zb_F2 hts
  have hat : zAt D cy A sa 119 p s m #[Value.ref b] meth c := ⟨hx, hb.trans zcode_law, hml, hown, fun w hw => hts w (List.mem_filter.mp hw).1, hK, hF, hlocks, hr, by rw [if_pos (by rfl)]; exact het, hA⟩
  have hrl : ∀ r, r < 100 → zRul r = zruS L xs r := fun r hr => by unfold zruS; rw [if_neg (by omega), if_neg (by omega)]
  have hsc : ∀ ad : Nat → Nat, ad 43 = b → zSc (zruS L xs) ad A s := fun ad hd => ⟨L, xs, hL, by unfold zruS; rw [if_neg (by decide), if_pos rfl], by unfold zruS; rw [if_pos rfl], by rw [hd]; exact hX, by rw [hd]; exact hbl, by rw [hd]; exact hA3 b hbl⟩
  have hl := lv_entry ([.ref b]) (n := 7) (Nat.le_of_ble_eq_true rfl)
  rw [lg_entry_eq]
  generalize (lg_sl ([.ref b]) ++ List.replicate (7 - (lg_sl ([.ref b])).length) Slot.unset).toArray = ls at hl ⊢
  have hl : lv_has ls 7 (zlv (fun _ => 0) (fun _ => b) [(0, (2, 0, 43, 0))]) := hl
  have hi : zInv (zruS L xs) D cy (fun _ => b) A (zmaxL 119) s.heap (fun _ => 0) [(0, (2, 0, 43, 0))] [] [] ([], [], []) [] s.heap [] ls :=
    ⟨⟨fun v i hv => by simp at hv, fun q hq => (nomatch hq), fun q hq => (nomatch hq)⟩, fun q hq => by rw [List.mem_singleton.mp hq]; exact Or.inl rfl, fun a ha => (nomatch ha), fun c hc => (nomatch hc), ⟨rfl, fun i c hc => by simp at hc⟩, fun k q h => by simp at h, ⟨fun i j p q h => by simp at h, fun k q h => by simp at h⟩, va_S.rf, hl⟩
  have IS := zini_ok (l := l) (D := D) (cy := cy) (A := A) (sa := sa) (G := zG) (rul := zruS L xs) (rc := zRul) (alc := zalc) hrl zok_all zoki_all zcl_ok 400
  refine IS 119 0 [(0, (2, 0, 43, 0))] [] [] 0 0 zli zli_run p e s m #[Value.ref b] below meth c (lw_Z below #[Value.ref b] s) 0 (fun _ => b) (fun _ => 0) (fun _ => b) [] s.heap [] ls 0 0 601024 7293034 hat (fun _ => hsc _ rfl) hF2 hnm hi (zaa_rf _ _) (Nat.le_refl _) (Nat.zero_le _) (by decide) (by decide) (Nat.zero_le _) (Nat.zero_le _) ?_
  intro pc' lc' st' h' nc' ns' e' ad' ws' H' locs' ls' hk' _ hz _ _ _ _ hI
  unfold zli at hk'
  simp only [Bool.and_eq_true, decide_eq_true_eq] at hk'
  obtain ⟨⟨⟨⟨⟨rfl, rfl⟩, hnc⟩, hns⟩, hmt⟩, hfc⟩ := hk'
  obtain ⟨hI1, -⟩ := zmt_ok hmt hI
  have hI2 := zI_S (S' := (zcu119_23.2.2.1, zcu119_23.2.2.2.2.2.2, [])) hI1 ⟨hI1.1.1, fun q hq => by
    have hp := List.all_eq_true.mp hfc q hq
    simp only [Bool.and_eq_true, decide_eq_true_eq] at hp
    refine ⟨zpl_w hp.1.2, zpl_w hp.2, ?_⟩
    rw [← zsb_v, ← zsb_v, hp.1.1.1, hp.1.1.2]
    exact Int.le_refl _, fun q hq => (nomatch hq)⟩ rfl
  have hsc2 : zSc (zruS L xs) ad' A s := hsc ad' (hz.2 43 (Nat.le_refl _))
  have IHs := zsound (l := l) (D := D) (cy := cy) (ad := ad') (A := A) (sa := sa) (G := zG) (rul := zruS L xs) (rc := zRul) (bd := 99) hrl hl0 zok_all zcl_ok (fun j ct hct _ => zmets (rc := zRul) hrl hl0 zok_all zcl_ok zcatch_ok zE_all zU_all ct.1 j ct hct rfl) zcatch_ok
  have h40 := hI2.1.1 44 (0, 3072) rfl
  have hN : (zmu (zec (zthI lc' h') e') zcu119_23.2.2.2.1.1 + zcu119_23.2.2.2.1.2).toNat ≤ 3072 := by
    have h41 : zmu (zec (zthI lc' h') e') zcu119_23.2.2.2.1.1 = (-1) * (1 * (zec (zthI lc' h') e') 44 + 0) + 0 := rfl
    have h42 : zcu119_23.2.2.2.1.2 = 3072 := rfl
    have h43 : (0 : Int) ≤ zec (zthI lc' h') e' 44 := h40.1
    rw [h41, h42]
    omega
  have hg1 : zG.2.2.1 119 = 4 := rfl
  have hg2 : zG.2.2.2.1 119 = 24 := rfl
  have hW := zheadL (l := l) (ev := e) (below := below) (e0 := e') (Mc := 601024) (Ms := 7293034) IHs (cu := zcu119_23) rfl zone zLaw zcv119 rfl rfl hat (fun _ => hsc2) _ (0 + nc') (0 + ns') (zec (zthI lc' h') e') ws' H' locs' ls' (by rw [hg1]; omega) (by rw [hg2]; omega) hI2 rfl
  intro T hT X
  obtain ⟨t, a1, o, b1, b2, b3⟩ := hW T hT X
  refine ⟨t, a1, o, b1, b2, ?_⟩
  rcases b3 with ⟨⟨⟨e1, h1, S1, ws1, r, ho, -, -, hk, -⟩, -⟩, Lc, hfe, hfr⟩ | ⟨q, -, E, ce, Lc, ⟨⟨e1, h1, S1, ws1, x9, -, -, hk, -⟩, -⟩, -⟩
  · have hr9 : r = (0, (0, 0, 0, 1)) := of_decide_eq_true hk
    subst hr9
    have hv : zval e1 ad' (0, 0, 0, 1) = .int 1 := by
      rw [zval_0 rfl, zv_c]
      decide
    have ho2 : o = .returned (some (zval e1 ad' (0, 0, 0, 1))) := ho
    rw [hv] at ho2
    exact ⟨ho2, hfe.1, hfe.2.1, zforget hfe.2.2 (fun q hq => hA2 _ (hfr q hq))⟩
  · have hr9 : ((2, (x9, 0, 0, 0)) : zOut) = (0, (0, 0, 0, 1)) := of_decide_eq_true hk
    cases hr9
end
section
/-! ===== the claim ===== -/
set_option maxHeartbeats 4000000 in
theorem lw_walk (l : Launch) (hl0 : l.stackTraces = false) (b : Addr) (xs : List Int32) : MetFree l x (headSpec (Jvm.Cond.code x code maxLocals ret :: tables_1) room_1) (lw_P b xs) (fun _ _ _ _ _ => True) lw_Q := by
  refine MetFree.of_bodyS (code := code) (maxLocals := maxLocals) (ret := ret) (by decide) ?_ ?_
  · intro args s m h hn
    obtain ⟨meth, c, h1, h2, h3, h4, h5, h6, -, -⟩ := Cond.code_spec hn (atoms_spec (ws := Jvm.Cond.code x code maxLocals ret :: tables_1) h _ List.mem_cons_self)
    exact ⟨meth, c, h1, h2, h3, h4, h5, h6⟩
  · intro p e s m args below meth c s₁ B hml0 hP _
    obtain ⟨rfl, hx, hbd, hgv⟩ := hP
    obtain ⟨scr, harrAt, hlist, hof, hsmall⟩ := hx
    obtain ⟨hcb, hkn, -, -⟩ := State.arrayAt?_spec harrAt
    have hown : s.vm.findClass R_law = some m.cls := findClass_of_methodNamed B.named
    have hts0 : ∀ c ∈ (Jvm.Cond.code x code maxLocals ret :: tables_1), c.before #[Value.ref b] s = true := atoms_spec (ws := Jvm.Cond.code x code maxLocals ret :: tables_1) B.pre
    have hts : ∀ w ∈ lw_tbl, w.before #[Value.ref b] s = true := k2_hts_sels lw_privs (fun w hw => hts0 w (List.mem_cons_of_mem _ hw)) lw_privs_ok
    have hml : c.maxLocals = 7 := B.maxLocals_eq (hts0 _ List.mem_cons_self)
    have het : c.exceptionTable.toList = [] := by
      obtain ⟨meth9, c9, h1, h2, -, -, -, -, h7, -⟩ := Cond.code_spec B.named (hts0 _ List.mem_cons_self)
      cases Option.some.inj (h1.symm.trans B.method)
      cases Option.some.inj (h2.symm.trans (Stand.of_body B).code)
      rw [Array.isEmpty_iff.mp h7]
    have hnm : meth.name = "law" := (name_of_methodNamed B.named B.method).1
    have X₀ : Stand p l e room_1 s m #[Value.ref b] below meth c s₁ [] 0 0 := Stand.of_body B
    have hh0 : s₁.heap = s.heap := by rw [B.state]; rfl
    have hsz : scr.slots.size = xs.length := by rw [← Array.length_toList, hlist, List.length_map]
    have hval : ∀ j : Nat, j < xs.length → scr.slots[j]? = some (.int (xs.getD j 0)) := fun j hj => by
      rw [← Array.getElem?_toList, hlist]
      simp [hj]
    have hbl : b < s.heap.size := (Array.getElem?_eq_some_iff.mp hcb).1
    have hX : va_X b xs.length (fun j => xs.getD j 0) s s.heap := ⟨scr, hcb, hof, hkn, hsz, hval⟩
    have K : W p l e room_1 s m #[Value.ref b] below meth c s₁.heap [] 0 0 (lw_Z below #[Value.ref b] s) (entryFrame m ([Value.ref b] : List Value).toArray 7) := by
      rw [hh0]
      exact whole_start l hl0 het hnm hbd ⟨B.exec, B.bytes, B.returns, hml, hown, hts, hX, hbl, B.notSynchronized, hgv⟩
    obtain ⟨t, a1, o, b1, b2, b3⟩ := K s₁ rfl X₀
    exact ⟨t, o, a1, b1, b2, b3⟩
theorem lw_pre_spec {args : Array Value} {s : State} (h : (Jvm.Cond.and given_1 narrow_1).before args s = true) (hr : rest_1_c.before args s = true) : ∃ (b : Addr) (xs : List Int32), lw_P b xs args s := by
  have hs := flat_of_before _ h
  have hq := flat_of_before _ hr
  have hc : (Cond.count 1).before args s = true := hs _ (by decide +kernel)
  have harr : (Cond.arrayOf (.arg 0) .int).before args s = true := hs _ (by decide +kernel)
  have hle : (Cond.le (.length (.arg 0)) (.int 3072)).before args s = true := hs _ (by decide +kernel)
  have hlen : (Cond.isInt (.length (.arg 0))).before args s = true := hq _ (by decide +kernel)
  have hall : (Cond.all (.arg 0) (.isInt (.elem (.arg 0) (.index 0)))).before args s = true := hq _ (by decide +kernel)
  obtain ⟨b, xs, hb, hx⟩ := State.ints_of_pre rfl harr hlen hall
  have hsm : xs.length < 2 ^ 31 := hx.choose_spec.2.2.2
  have hev : (Term.length (.arg 0)).eval args s none [] s = some (.int xs.length.toInt32) := hx.length_eval hb
  have hv := Cond.le_ints hev (show (Term.int 3072).eval args s none [] s = some (.int 3072) from rfl)
  have hd : xs.length.toInt32 ≤ 3072 := by
    simpa [Cond.before, Cond.holds, hv] using hle
  have hN : xs.length ≤ 3072 := (Int32.ofNat_le_ofNat hsm (by decide)).mp (show Int32.ofNat xs.length ≤ Int32.ofNat 3072 from hd)
  exact ⟨b, xs, Cond.one_arg hc (show args[0]? = some (.ref b) from hb), hx, hN, h⟩
theorem lw_comes (l : Launch) (hl0 : l.stackTraces = false) : Comes l x (Jvm.Cond.code x code maxLocals ret :: tables_1) room_1 (fun tb e args s => Calls_1 tb e args s ∧ rest_1 tb e args s ∧ Pre_1 tb e args s)
    (fun _ _ args s o t => lw_Q args s o t) := by
  intro p e ha hc hk s m args below hf hfit hheap happ hpre
  obtain ⟨b, xs, hP⟩ := lw_pre_spec hpre.2.2 hpre.2.1
  obtain ⟨k, o, h1, h2, h3, hQ⟩ := lw_walk l hl0 b xs p e ha hc hk s m args below hf ((Spec.applies_iff_loose hf).mp happ).1 hP trivial
  exact ⟨k, o, h1, h2, h3, hQ⟩
theorem lw_frame {s t : State} {o : Outcome} {args : Array Value} (h : Framed s o t [] 601024 7293034) :
    Framed s o t (fieldLocs frame_1_writes args s ++ arrayLocs frame_1_arrays args s ++ staticLocs frame_1_statics s) 601024 7293034 := h
theorem lw_limb (L : Cond) (hL : ∀ (args : Array Value) (s t : State), L.after args s (.returned (some (.int 1))) t = true) :
    ArmFor flags0 classFile x code maxLocals ret World_1 tables_1 room_1 Calls_1 rest_1 Pre_1
      (fun tb e a s o t => postC L tb e a s o t ∧ Framed s o t (fieldLocs frame_1_writes a s ++ arrayLocs frame_1_arrays a s ++ staticLocs frame_1_statics s) 601024 7293034) := by
  intro l hfl _ _ p e ha hc hk s m args below hf hfit hheap happ hpre
  have hl0 : l.stackTraces = false := by unfold Launch.stackTraces; rw [hfl]; decide +kernel
  obtain ⟨k, o, h1, h2, h3, rfl, hF⟩ := lw_comes l hl0 p e ha hc hk s m args below hf hfit hheap happ hpre
  exact ⟨k, _, h1, h2, h3, hL args s _, lw_frame hF⟩
theorem i_vc : Claimed_1_1 ∧ Claimed_1_2 := ⟨lw_limb limb_1_1 (fun args s t => by simp [limb_1_1, Cond.after, Cond.holds, Cond.value]), lw_limb limb_1_2 (fun args s t => Cond.after_iff.mpr (by
  first | (rw [show limb_1_2 = Cond.eq .result (.int 1) from rfl, Cond.eq_ints (x := 1) (y := 1) rfl rfl]; simp; done) | (simp [limb_1_2, Cond.value, Term.eval]; done)))⟩
end
