/-! ===== what a method's walk says of a call of it ===== -/
def zws (i : Nat) : List Cond := zcw i :: zTg
def zPc (D : va_G) (cy : Nat → ClassId) (A : Nat → Prop) (sa : Nat → Nat) (ws : va_W) (vals : List Value) : Array Value → State → Prop := fun v U => v = vals.toArray ∧ va_P D vwCl ws U.heap ∧ va_K D vwCl (ztys cy) U ∧ zF sa A U ∧ ∀ q : Nat, U.heap.size ≤ q → A q
theorem zPc_bl (D : va_G) (cy : Nat → ClassId) (A : Nat → Prop) (sa : Nat → Nat) (ws : va_W) (vals : List Value) : FrameBlind (zPc D cy A sa ws vals) := fun a U g mk q => ⟨q.1, q.2.1, va_K.moved (u := U) (U := U.calling g mk a) (Vm.Alike.refl U.vm) q.2.2.1, zF_bl q.2.2.2.1 g mk a, q.2.2.2.2⟩
/-- the picture at an end -/
def zEnd (rul : Nat → List zI) (D : va_G) (cy : Nat → ClassId) (ad : Nat → Nat) (A : Nat → Prop) (n0 : Nat) (e0 e1 : Nat → Int) (h1 : List zC) (S1 : zS) (ws1 : va_W) (t : State) : Prop :=
  zag n0 e0 e1 ∧ n0 ≤ S1.1.length ∧ zSat rul e1 S1 ∧ (∀ c ∈ h1, ∀ a ∈ c.2.2.2.2, zwf S1.1.length a) ∧ zHR rul cy e1 ad h1 ws1 ∧ va_D A ws1 ∧ va_P D vwCl ws1 t.heap
def zQk (rul : Nat → List zI) (D : va_G) (cy : Nat → ClassId) (ad : Nat → Nat) (A : Nat → Prop) (k : zK) (n0 : Nat) (e0 : Nat → Int) : Array Value → State → Outcome → State → Prop := fun _ st oc t =>
  (∃ (e1 : Nat → Int) (h1 : List zC) (S1 : zS) (ws1 : va_W) (r : zOut), oc = .returned (if r.1 = 0 then some (zval e1 ad r.2) else none) ∧ r.1 ≤ 1 ∧ (r.1 = 0 → r.2.1 = 0 ∧ zwf S1.1.length r.2) ∧ k r h1 S1 = true ∧ zEnd rul D cy ad A n0 e0 e1 h1 S1 ws1 t) ∧ va_F A st t
def zXk (rul : Nat → List zI) (D : va_G) (cy : Nat → ClassId) (ad : Nat → Nat) (A : Nat → Prop) (k : zK) (n0 : Nat) (e0 : Nat → Int) : String → State → State → Prop := fun E st t =>
  (∃ (e1 : Nat → Int) (h1 : List zC) (S1 : zS) (ws1 : va_W) (x : Nat), x < 3 ∧ E = zen x ∧ k (2, (x, 0, 0, 0)) h1 S1 = true ∧ zEnd rul D cy ad A n0 e0 e1 h1 S1 ws1 t) ∧ va_F A st t
section ZC
variable {rul : Nat → List zI} {D : va_G} {cy : Nat → ClassId} {ad : Nat → Nat} {A : Nat → Prop} {nL : Nat} {e : Nat → Int} {lc : zL} {st rest : List zA} {h : List zC} {S : zS} {ws : va_W} {H : Heap} {locs : List Loc} {ls : Array Slot}
variable {p : Program} {l : Launch} {ev : Env} {R : Room} {s : State} {m : MethodId} {args : Array Value} {below : List Frame} {meth : Method} {c : Code} {cells slots mc ms : Nat} {pc : Nat} {Q : State → Prop} {a : Array Value} {kc : zK}
/-- behind a call -/
theorem zk_call (hr : vx_Run p l ev R s m args below meth c H locs cells slots mc ms (F0 m pc ls (zst e ad st)) (zst e ad rest) (zQk rul D cy ad A kc S.1.length e a) (zXk rul D cy ad A kc S.1.length e) A)
    (hi : zInv rul D cy ad A nL s.heap e lc rest h S ws H locs ls)
    (kv : ∀ (e1 : Nat → Int) (h1 : List zC) (S1 : zS) (ws1 : va_W) (r : zOut) (H1 : Heap) (locs1 : List Loc), r.1 ≤ 1 → (r.1 = 0 → r.2.1 = 0 ∧ zwf S1.1.length r.2) → kc r h1 S1 = true → zag S.1.length e e1 → S.1.length ≤ S1.1.length → zInv rul D cy ad A nL s.heap e1 lc rest h1 S1 ws1 H1 locs1 ls → W p l ev R s m args below meth c H1 locs1 (cells + mc) (slots + ms) Q (F0 m (pc + 3) ls ((if r.1 = 0 then some (zval e1 ad r.2) else none : Option Value).toList ++ zst e1 ad rest)))
    (kx : ∀ (e1 : Nat → Int) (h1 : List zC) (S1 : zS) (ws1 : va_W) (x : Nat) (H1 : Heap) (locs1 : List Loc) (q : Addr) (ce : Cell), x < 3 → kc (2, (x, 0, 0, 0)) h1 S1 = true → zag S.1.length e e1 → S.1.length ≤ S1.1.length → zInv rul D cy ad A nL s.heap e1 lc rest h1 S1 ws1 H1 locs1 ls → H1[q]? = some ce → ce.vm = .none → s.vm.findClass (zen x) = some ce.cls → vx_W p l ev R s m args below meth c H1 locs1 (cells + mc) (slots + ms) Q (F0 m pc ls (zst e ad rest)) q) :
    W p l ev R s m args below meth c H locs cells slots Q (F0 m pc ls (zst e ad st)) := by
  have key : ∀ {st₀ t T' : State} {L : List Loc} {e1 : Nat → Int} {h1 : List zC} {S1 : zS} {ws1 : va_W}, st₀.heap = H → T'.heap = t.heap → (∀ q ∈ L, A q.base) → va_F A st₀ t → zEnd rul D cy ad A S.1.length e e1 h1 S1 ws1 t → zInv rul D cy ad A nL s.heap e1 lc rest h1 S1 ws1 T'.heap (locs ++ L) ls := by
    intro st₀ t T' L e1 h1 S1 ws1 h0 eh hL hF hE
    obtain ⟨k1, k2, k3⟩ := vx_keep h0 eh hi.2.2.2.2.2.2.2.1 (fun q _ z => z) (fun q z => z) hL hF
    obtain ⟨g1, g2, g3, g4, g5, g6, g7⟩ := hE
    refine ⟨g3, fun q hq => zwf_le (hi.2.1 q hq) g2, fun b hb => zwf_le (hi.2.2.1 b hb) g2, g4, g5, by rw [eh]; exact g7, g6, k3, ?_⟩
    rw [zlv_ag g1 hi.2.1]
    exact hi.2.2.2.2.2.2.2.2
  intro T hT X
  rcases hr T hT X with ⟨v, st₀, t, T', L, h0, X', hL, eh, ev9, ⟨⟨e1, h1, S1, ws1, r, ho, r1, r2, hk, hE⟩, hF⟩, hgo⟩ | ⟨q, st₀, t, T', L, E, ce, h0, X', hL, eh, ev9, ⟨⟨e1, h1, S1, ws1, x, hx3, rfl, hk, hE⟩, hF⟩, hce, hcv, hcl, hgo⟩
  · have hv : v = if r.1 = 0 then some (zval e1 ad r.2) else none := by injection ho
    have hI := key h0 eh hL hF hE
    obtain ⟨t2, a1, b1⟩ := kv e1 h1 S1 ws1 r T'.heap (locs ++ L) r1 r2 hk hE.1 hE.2.1 hI T' rfl X'
    rw [zst_ag hE.1 hi.2.2.1, ← hv] at a1
    exact ⟨t2, hgo t2 a1, b1⟩
  · have hI := key h0 eh hL hF hE
    obtain ⟨t2, a1, b1⟩ := kx e1 h1 S1 ws1 x T'.heap (locs ++ L) q ce hx3 hk hE.1 hE.2.1 hI (by rw [eh]; exact hce) hcv hcl T' rfl X'
    exact ⟨t2, hgo.trans a1, b1⟩
end ZC
/-- what holds in a method's frame from its start -/
def zAt (D : va_G) (cy : Nat → ClassId) (A : Nat → Prop) (sa : Nat → Nat) (i : Nat) (p : Program) (s : State) (m : MethodId) (args : Array Value) (meth : Method) (c : Code) : Prop :=
  p.tables.exec = Jvm.exec ∧ c.code = zcode i ∧ c.maxLocals = zmaxL i ∧ s.vm.findClass (zy i).cls = some m.cls ∧ (∀ w ∈ zTg, w.before args s = true) ∧ va_K D vwCl (ztys cy) s ∧ zF sa A s ∧ meth.locks = false ∧ meth.sig.returnType = zret i ∧ c.exceptionTable.toList = (if zhh i = [] then [] else tableOf (zhh i)) ∧ ∀ q : Nat, s.heap.size ≤ q → A q
theorem zlg_len (e : Nat → Int) (ad : Nat → Nat) : ∀ as : List zA, (∀ a ∈ as, ¬ a.1 = 1) → (lg_sl (zst e ad as)).length = as.length
  | [], _ => rfl
  | a :: l, h => by
    have h1 := zval_c1 e ad (h a List.mem_cons_self)
    have h2 := zlg_len e ad l fun b hb => h b (List.mem_cons_of_mem _ hb)
    have h3 : ¬ (zval e ad a).category = 2 := by rw [h1]; decide
    show (lg_sl (zval e ad a :: zst e ad l)).length = l.length + 1
    unfold lg_sl at h2 ⊢
    rw [List.flatMap_cons, if_neg h3, List.length_append, h2]
    simp
    omega
theorem zlv_args (e : Nat → Int) (ad : Nat → Nat) : ∀ (n : Nat) (as : List zA), (∀ a ∈ as, ¬ a.1 = 1) → lv_args n (zst e ad as) = zlv e ad (zent n as)
  | _, [], _ => rfl
  | n, a :: l, h => by
    have h1 := zval_c1 e ad (h a List.mem_cons_self)
    have h3 : ¬ (zval e ad a).category = 2 := by rw [h1]; decide
    show (n, zval e ad a) :: lv_args (if (zval e ad a).category = 2 then n + 2 else n + 1) (zst e ad l) = (n, zval e ad a) :: zlv e ad (zent (n + 1) l)
    rw [if_neg h3, zlv_args e ad (n + 1) l fun b hb => h b (List.mem_cons_of_mem _ hb)]
