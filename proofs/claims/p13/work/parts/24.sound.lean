/-! ===== the walk is right ===== -/
def zOK : Prop := ∀ (i pc : Nat) (o : zO), zopf (zopl i) pc = some o → zgd i pc o = true ∧ (o.1 = 50 ∨ o.1 = 51 → zgc i pc o = true) ∧ (o.1 = 36 → zgt i pc o = true)
def zMetK (l : Launch) (D : va_G) (cy : Nat → ClassId) (ad : Nat → Nat) (A : Nat → Prop) (sa : Nat → Nat) (G : zCf) (rul : Nat → List zI) (i : Nat) (k : zK) (n0 : Nat) (e0 : Nat → Int) (ws : va_W) (vals : List Value) : Prop :=
  vx_Met l (zy i) (zws i) (zrm G i) (zPc D cy A sa ws vals) (zQk rul D cy ad A k n0 e0) (zXk rul D cy ad A k n0 e0) (G.2.2.1 i) (G.2.2.2.1 i) A
def zMetC (l : Launch) (D : va_G) (cy : Nat → ClassId) (ad : Nat → Nat) (A : Nat → Prop) (sa : Nat → Nat) (G : zCf) (rul : Nat → List zI) (j : Nat) (ct : zCt) : Prop :=
  ∀ (e0 : Nat → Int) (ws : va_W), zS1 e0 ct.2.2.2.1 → (∀ c ∈ ct.2.2.1, ∀ a ∈ c.2.2.2.2, zwf ct.2.2.2.1.length a) → (∀ a ∈ ct.2.1, zwf ct.2.2.2.1.length a) → zHR rul cy e0 ad ct.2.2.1 ws → va_D A ws → zMetK l D cy ad A sa G rul j (zkp ct) ct.2.2.2.1.length e0 ws (zst e0 ad ct.2.1)
/-- a row of the method's own table takes it -/
def zCatch (D : va_G) (cy : Nat → ClassId) (A : Nat → Prop) (sa : Nat → Nat) : Prop := ∀ (i pc hp x : Nat) (p : Program) (l : Launch) (ev : Env) (R : Room) (s : State) (m : MethodId) (args : Array Value) (below : List Frame) (meth : Method) (c : Code) (H : Heap) (locs : List Loc) (cells slots : Nat) (Q : State → Prop) (ls : Array Slot) (rest : List Value) (q : Addr) (ce : Cell),
  zAt D cy A sa i p s m args meth c → zfh (zhh i) pc x = some hp → x < 3 → H[q]? = some ce → ce.vm = .none → s.vm.findClass (zen x) = some ce.cls → W p l ev R s m args below meth c H locs cells slots Q (F0 m hp ls [.ref q]) → vx_W p l ev R s m args below meth c H locs cells slots Q (F0 m pc ls rest) q
/-- what is known of the loops' heads -/
def zHc (l : Launch) (D : va_G) (cy : Nat → ClassId) (ad : Nat → Nat) (A : Nat → Prop) (G : zCf) (rul : Nat → List zI) (i : Nat) (n0 : Option Nat) (mu : Option zM) (p : Program) (ev : Env) (s : State) (m : MethodId) (args : Array Value) (below : List Frame) (meth : Method) (c : Code) (Q : State → Prop) (m0 : Nat) (e0 : Nat → Int) (n1 : Nat) (es : Nat → Int) (oc os Mc Ms : Nat) : Prop :=
  ∀ m' : Nat, n0 = some m' → m' = m0 ∧ (∀ u : zM, mu = some u → ∀ q ∈ u.1, zwf n1 q.2) ∧ ∀ (pc : Nat) (cu : zCu) (ec : Nat → Int) (ws : va_W) (H : Heap) (locs : List Loc) (ls : Array Slot), G.2.2.2.2.2 i pc = some cu → zInv rul D cy ad A (zmaxL i) s.heap ec cu.1 [] cu.2.1 (cu.2.2.1, cu.2.2.2.2.2.2, []) ws H locs ls → zag m0 e0 ec → m0 ≤ cu.2.2.1.length → (∀ u : zM, mu = some u → zmu ec cu.2.2.2.1.1 + cu.2.2.2.1.2 < zmu es u.1 + u.2) → W p l ev (zrM G i Mc Ms) s m args below meth c H locs (oc + cu.2.2.2.2.1) (os + cu.2.2.2.2.2.1) Q (F0 m pc ls [])
def zSnd (l : Launch) (D : va_G) (cy : Nat → ClassId) (ad : Nat → Nat) (A : Nat → Prop) (sa : Nat → Nat) (G : zCf) (rul rc : Nat → List zI) (bd n : Nat) : Prop :=
  ∀ (i : Nat) (n0 : Option Nat) (mu : Option zM) (go : Bool) (pc : Nat) (lc : zL) (st : List zA) (h : List zC) (S : zS) (nc ns : Nat) (k : zK), zchk G rc bd n i n0 mu go pc lc st h S nc ns k = true →
  ∀ (p : Program) (ev : Env) (s : State) (m : MethodId) (args : Array Value) (below : List Frame) (meth : Method) (c : Code) (m0 : Nat) (e0 : Nat → Int) (n1 : Nat) (es e : Nat → Int) (ws : va_W) (H : Heap) (locs : List Loc) (ls : Array Slot) (oc os Mc Ms : Nat),
  zAt D cy A sa i p s m args meth c → (i = 119 → zSc rul ad A s) → zInv rul D cy ad A (zmaxL i) s.heap e lc st h S ws H locs ls → zag m0 e0 es → m0 ≤ n1 → zag n1 es e → n1 ≤ S.1.length → nc ≤ G.2.2.1 i → ns ≤ G.2.2.2.1 i → oc + G.2.2.1 i ≤ Mc → os + G.2.2.2.1 i ≤ Ms →
  zHc l D cy ad A G rul i n0 mu p ev s m args below meth c (vx_MQ below (zQk rul D cy ad A k m0 e0) (zXk rul D cy ad A k m0 e0) args s Mc Ms A) m0 e0 n1 es oc os Mc Ms →
  W p l ev (zrM G i Mc Ms) s m args below meth c H locs (oc + nc) (os + ns) (vx_MQ below (zQk rul D cy ad A k m0 e0) (zXk rul D cy ad A k m0 e0) args s Mc Ms A) (F0 m pc ls (zst e ad st))
theorem zthk_id {m0 v : Nat} {I : List zI} {ps : List (zA × zA)} (hv : v < m0) (hm : m0 ≤ I.length) : ztf (zthk m0 I ps) v = (0, 1, v, 0) := by
  unfold ztf zthk
  rw [List.getD_eq_getElem?_getD, List.getElem?_map, List.getElem?_range (by omega)]
  simp [hv]
theorem zec_id {m0 : Nat} {I : List zI} {ps : List (zA × zA)} {e0 e : Nat → Int} (hm : m0 ≤ I.length) (h : zag m0 e0 e) : zag m0 e0 (zec (ztf (zthk m0 I ps)) e) := fun v hv => by
  unfold zec
  rw [zthk_id hv hm]
  show (1 : Int) * e v + 0 = e0 v
  rw [← h v hv]
  omega
theorem zmu_ag {n : Nat} {e e' : Nat → Int} (h : zag n e e') : ∀ T : List (Int × zA), (∀ q ∈ T, zwf n q.2) → zmu e' T = zmu e T
  | [], _ => rfl
  | q :: r, hw => by
    show q.1 * zv e' q.2 + zmu e' r = q.1 * zv e q.2 + zmu e r
    rw [zv_ag h (hw q List.mem_cons_self), zmu_ag h r fun x hx => hw x (List.mem_cons_of_mem _ hx)]
/-- vx_ofW for a class some of whose methods aren't bytes: this one is -/
theorem vx_ofWF {l : Launch} {y : MethodName} {ws ws' : List Cond} {rm : Room} {Pc : Array Value → State → Prop} {Qc : Array Value → State → Outcome → State → Prop} {XC : String → State → State → Prop} {mc ms : Nat} {free : Addr → Prop} {cc : ByteArray} {maxL : Nat} {ret : Option FieldType}
    (hy : plainFor y = true) (hw : ws = Cond.code y cc maxL ret :: ws')
    (body : ∀ p e s m args below meth c s₁, BodyLoose p l y (headSpec ws rm) cc maxL ret e s m args below meth c s₁ → c.maxLocals = maxL → (∀ x ∈ c.exceptionTable.toList, False) → Pc args s →
      W p l e (headSpec ws rm).room s m args below meth c s.heap [] 0 0 (vx_MQ below Qc XC args s mc ms free) (entryFrame m args maxL)) : vx_Met l y ws rm Pc Qc XC mc ms free := by
  refine MetFree.of_bodySF (code := cc) (maxLocals := maxL) (ret := ret) hy ?_ ?_
  · intro args s m h hn
    obtain ⟨meth, c, h1, h2, h3, h4, h5, h6, -, -⟩ := Cond.code_spec hn (atoms_spec (ws := ws) h _ (by rw [hw]; exact List.mem_cons_self))
    exact ⟨meth, c, h1, h2, h3, h4, h5, h6⟩
  · intro p e s m args below meth c s₁ B hml hP _
    have hh0 : s₁.heap = s.heap := by rw [B.state]; rfl
    have ht : ∀ x ∈ c.exceptionTable.toList, False := by
      obtain ⟨meth9, c9, h1, h2, -, -, -, -, h7, -⟩ := Cond.code_spec B.named (atoms_spec (ws := ws) B.pre _ (by rw [hw]; exact List.mem_cons_self))
      cases Option.some.inj (h1.symm.trans B.method)
      cases Option.some.inj (h2.symm.trans (Stand.of_body B).code)
      intro x hx
      rw [Array.isEmpty_iff.mp h7] at hx
      cases hx
    obtain ⟨t, a1, o, b1, b2, b3⟩ := body p e s m args below meth c s₁ B hml ht hP s₁ hh0 (Stand.of_body B)
    exact ⟨t, o, a1, b1, b2, b3⟩
section ZS
variable {l : Launch} {D : va_G} {cy : Nat → ClassId} {ad : Nat → Nat} {A : Nat → Prop} {sa : Nat → Nat} {G : zCf} {rul rc : Nat → List zI} {bd : Nat}
/-- a method's contract out of its walk from the entry -/
theorem zmet_of {n i : Nat} {n0 : Option Nat} {as : List zA} {h : List zC} {S : zS} {k : zK} {e : Nat → Int} {ws : va_W} (hni : ¬ i = 119) (IH : zSnd l D cy ad A sa G rul rc bd n) (hk : zchk G rc bd n i n0 none false 0 (zent 0 as) [] h S 0 0 k = true)
    (htg : ∀ a ∈ as, ¬ a.1 = 1) (hlen : as.length ≤ zmaxL i) (hs : zSat rul e S) (hwf : ∀ a ∈ as, zwf S.1.length a) (hwh : ∀ c ∈ h, ∀ a ∈ c.2.2.2.2, zwf S.1.length a) (hR : zHR rul cy e ad h ws) (hD : va_D A ws) (hplain : zpn i = true)
    (hH : ∀ (p : Program) (ev : Env) (s : State) (m : MethodId) (args : Array Value) (below : List Frame) (meth : Method) (c : Code), zAt D cy A sa i p s m args meth c → zHc l D cy ad A G rul i n0 none p ev s m args below meth c (vx_MQ below (zQk rul D cy ad A k S.1.length e) (zXk rul D cy ad A k S.1.length e) args s (G.2.2.1 i) (G.2.2.2.1 i) A) S.1.length e S.1.length e 0 0 (G.2.2.1 i) (G.2.2.2.1 i)) :
    zMetK l D cy ad A sa G rul i k S.1.length e ws (zst e ad as) := by
  have body : ∀ (p : Program) (ev : Env) (s : State) (m : MethodId) (args : Array Value) (below : List Frame) (meth : Method) (c : Code), zAt D cy A sa i p s m args meth c → zPc D cy A sa ws (zst e ad as) args s → W p l ev (zrm G i) s m args below meth c s.heap [] 0 0 (vx_MQ below (zQk rul D cy ad A k S.1.length e) (zXk rul D cy ad A k S.1.length e) args s (G.2.2.1 i) (G.2.2.2.1 i) A) (entryFrame m args (zmaxL i)) := by
    intro p ev s m args below meth c hat hv
    obtain ⟨rfl, hP, hK, hF, hA⟩ := hv
    have hl := lv_entry (zst e ad as) (n := zmaxL i) (by rw [zlg_len e ad as htg]; exact hlen)
    rw [lg_entry_eq]
    generalize (lg_sl (zst e ad as) ++ List.replicate (zmaxL i - (lg_sl (zst e ad as)).length) Slot.unset).toArray = ls at hl ⊢
    rw [zlv_args e ad 0 as htg] at hl
    have hwe : ∀ (n : Nat) (l : List zA), (∀ a ∈ l, zwf S.1.length a) → ∀ q ∈ zent n l, zwf S.1.length q.2 := by
      intro n l
      induction l generalizing n with
      | nil => intro _ q hq; cases hq
      | cons a r ih =>
        intro hw q hq
        rcases List.mem_cons.mp hq with h1 | h1
        · rw [h1]; exact hw a List.mem_cons_self
        · exact ih (n + 1) (fun b hb => hw b (List.mem_cons_of_mem _ hb)) q h1
    exact IH i n0 none false 0 (zent 0 as) [] h S 0 0 k hk p ev s m _ below meth c S.1.length e S.1.length e e ws s.heap [] ls 0 0 (G.2.2.1 i) (G.2.2.2.1 i) hat (fun q => absurd q hni) ⟨hs, hwe 0 as hwf, fun a ha => (nomatch ha), hwh, hR, hP, hD, va_S.rf, hl⟩ (zag_rf _ _) (Nat.le_refl _) (zag_rf _ _) (Nat.le_refl _) (Nat.zero_le _) (Nat.zero_le _) (Nat.le_of_eq (Nat.zero_add _)) (Nat.le_of_eq (Nat.zero_add _)) (hH p ev s m _ below meth c hat)
  unfold zMetK
  unfold zpn at hplain
  simp only [Bool.and_eq_true, Bool.or_eq_true, decide_eq_true_eq] at hplain
  by_cases hh : zhh i = []
  · refine vx_ofWF (cc := zcode i) (maxL := zmaxL i) (ret := zret i) (ws' := zTg) hplain.1 (by unfold zws zcw; rw [if_pos hh]) ?_
    intro p ev s m args below meth c s₁ B hml hnt hv
    have hts := atoms_spec (ws := zws i) B.pre
    refine body p ev s m args below meth c ⟨B.exec, B.bytes, hml, findClass_of_methodNamed B.named, fun w hw => hts w (List.mem_cons_of_mem _ hw), hv.2.2.1, hv.2.2.2.1, B.notSynchronized, B.returns, ?_, hv.2.2.2.2⟩ hv
    rw [if_pos hh]
    cases he : c.exceptionTable.toList with
    | nil => rfl
    | cons x r => exact (hnt x (by rw [he]; exact List.mem_cons_self)).elim
  · refine vx_ofWH (cc := zcode i) (maxL := zmaxL i) (ret := zret i) (hh := zhh i) (ws' := zTg) (hplain.2.resolve_left hh) (by unfold zws zcw; rw [if_neg hh]) ?_
    intro p ev s m args below meth c s₁ B hml hv
    have hts := atoms_spec (ws := zws i) B.pre
    refine body p ev s m args below meth c ⟨B.exec, B.bytes, hml, findClass_of_methodNamed B.named, fun w hw => hts w (List.mem_cons_of_mem _ hw), hv.2.2.1, hv.2.2.2.1, B.notSynchronized, B.returns, ?_, hv.2.2.2.2⟩ hv
    rw [if_neg hh]
    have hcw := hts (zcw i) List.mem_cons_self
    unfold zcw at hcw
    rw [if_neg hh] at hcw
    exact vx_table (x := zy i) B hcw
end ZS
