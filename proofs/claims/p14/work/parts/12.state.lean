/-! ===== what a walk's picture says of the machine ===== -/
/-- the good words of the tables -/
def zTg : List Cond := lw_tbl.filter goodWord
def zval (e : Nat → Int) (ad : Nat → Nat) (a : zA) : Value := match a.1 with
  | 0 => .int (Int32.ofInt (zv e a))
  | 1 => .long (Int64.ofInt (zv e a))
  | 3 => .null
  | _ => .ref (ad a.2.2.1)
theorem zval_0 {e : Nat → Int} {ad : Nat → Nat} {a : zA} (h : a.1 = 0) : zval e ad a = .int (Int32.ofInt (zv e a)) := by unfold zval; rw [h]; rfl
theorem zval_1 {e : Nat → Int} {ad : Nat → Nat} {a : zA} (h : a.1 = 1) : zval e ad a = .long (Int64.ofInt (zv e a)) := by unfold zval; rw [h]; rfl
theorem zval_2 {e : Nat → Int} {ad : Nat → Nat} {a : zA} (h : a.1 = 2) : zval e ad a = .ref (ad a.2.2.1) := by unfold zval; rw [h]; rfl
theorem zval_3 {e : Nat → Int} {ad : Nat → Nat} {a : zA} (h : a.1 = 3) : zval e ad a = .null := by unfold zval; rw [h]; rfl
theorem zval_cat (e : Nat → Int) (ad : Nat → Nat) (a : zA) : ((zval e ad a).category == 2) = (a.1 == 1) := by
  obtain ⟨t, k, v, c⟩ := a
  match t with
  | 0 => rfl
  | 1 => rfl
  | 2 => rfl
  | 3 => rfl
  | t + 4 => simp [zval, Value.category]
theorem zval_c1 (e : Nat → Int) (ad : Nat → Nat) {a : zA} (h : ¬ a.1 = 1) : (zval e ad a).category = 1 := by
  obtain ⟨t, k, v, c⟩ := a
  match t, h with
  | 0, _ => rfl
  | 1, h => exact absurd rfl h
  | 2, _ => rfl
  | 3, _ => rfl
  | t + 4, _ => rfl
theorem zval_ag {n : Nat} {e e' : Nat → Int} {ad : Nat → Nat} {a : zA} (h : zag n e e') (hw : zwf n a) : zval e' ad a = zval e ad a := by
  obtain ⟨t, k, v, c⟩ := a
  match t with
  | 0 => rw [zval_0 rfl, zval_0 rfl, zv_ag h hw]
  | 1 => rw [zval_1 rfl, zval_1 rfl, zv_ag h hw]
  | 2 => rfl
  | 3 => rfl
  | t + 4 => rfl
def zst (e : Nat → Int) (ad : Nat → Nat) (st : List zA) : List Value := st.map (zval e ad)
def zlv (e : Nat → Int) (ad : Nat → Nat) (lc : zL) : List (Nat × Value) := lc.map (fun q => (q.1, zval e ad q.2))
theorem zst_ag {n : Nat} {e e' : Nat → Int} {ad : Nat → Nat} {st : List zA} (h : zag n e e') (hw : ∀ a ∈ st, zwf n a) : zst e' ad st = zst e ad st := List.map_congr_left (fun a ha => zval_ag h (hw a ha))
theorem zlv_ag {n : Nat} {e e' : Nat → Int} {ad : Nat → Nat} {lc : zL} (h : zag n e e') (hw : ∀ q ∈ lc, zwf n q.2) : zlv e' ad lc = zlv e ad lc := List.map_congr_left (fun q hq => by rw [zval_ag h (hw q hq)])
def zget : zL → Nat → Option zA
  | [], _ => none
  | q :: l, j => if q.1 = j then some q.2 else zget l j
theorem zget_mem {lc : zL} {j : Nat} {a : zA} (h : zget lc j = some a) : (j, a) ∈ lc := by
  induction lc with
  | nil => cases h
  | cons q l ih =>
    unfold zget at h
    by_cases hq : q.1 = j
    · rw [if_pos hq] at h
      cases h
      rw [← hq]
      exact List.mem_cons_self
    · rw [if_neg hq] at h
      exact List.mem_cons_of_mem _ (ih h)
def zput (lc : zL) (j : Nat) (a : zA) : zL := (j, a) :: lc.filter (fun q => !(q.1 == j) && !(q.1 + 1 == j && q.2.1 == 1))
theorem zlv_put (e : Nat → Int) (ad : Nat → Nat) (lc : zL) (j : Nat) (a : zA) : (j, zval e ad a) :: (zlv e ad lc).filter (fun q => !(q.1 == j) && !(q.1 + 1 == j && q.2.category == 2)) = zlv e ad (zput lc j a) := by
  unfold zlv zput
  rw [List.map_cons, List.filter_map]
  congr 2
  apply List.filter_congr
  intro q _
  simp only [Function.comp_apply, zval_cat]
theorem zput_wf {n : Nat} {lc : zL} {j : Nat} {a : zA} (h : ∀ q ∈ lc, zwf n q.2) (ha : zwf n a) : ∀ q ∈ zput lc j a, zwf n q.2 := by
  intro q hq
  rcases List.mem_cons.mp hq with h1 | h1
  · rw [h1]; exact ha
  · exact h q (List.mem_filter.mp h1).1
theorem zlv_mem {e : Nat → Int} {ad : Nat → Nat} {lc : zL} {j : Nat} {a : zA} (h : zget lc j = some a) : (j, zval e ad a) ∈ zlv e ad lc := List.mem_map.mpr ⟨(j, a), zget_mem h, rfl⟩
theorem zls_get {e : Nat → Int} {ad : Nat → Nat} {lc : zL} {j : Nat} {a : zA} {ls : Array Slot} {nL : Nat} (hl : lv_has ls nL (zlv e ad lc)) (h : zget lc j = some a) : ls[j]? = some (.val (zval e ad a)) := hl.2.2 _ (zlv_mem h)
/-- rows of 13: a waited-for number is one (but at place q) -/
def zPw (f : Nat → Int32) (q : Int) : Prop := ∀ r k : Nat, k < 3 → ¬ ((13 * r + 9 : Nat) : Int) = q → (f (13 * r + 9)).toInt ≤ (k : Int) ∨ 1 ≤ (f (13 * r + 10 + k)).toInt
def zX1 (f : Nat → Int32) (vs : List Int) : Prop := match vs with
  | [] => zPw f (-1)
  | [p, w] => zPw f (-1) ∧ ∃ r : Nat, p = ((13 * r + 9 : Nat) : Int) ∧ (f (13 * r + 9)).toInt = w
  | [p, w, j] => ∃ r : Nat, p = ((13 * r + 9 : Nat) : Int) ∧ zPw f p ∧ (f (13 * r + 9)).toInt = w ∧ ∀ k : Nat, k < 3 → (k : Int) < j → 1 ≤ (f (13 * r + 10 + k)).toInt
  | _ => False
def zX2 (f : Nat → Int32) (vs : List Int) : Prop := match vs with
  | [n] => ∀ k : Nat, k < 3 → (k : Int) < n → 1 ≤ (f k).toInt
  | _ => False
/-- what an array's rule says besides -/
def zX (rr : Nat) (f : Nat → Int32) (vs : List Int) : Prop := if rr = 1 then zX1 f vs else if rr = 2 then zX2 f vs else True
/-- what is known of the script -/
def zY (n : Nat) (f : Nat → Int32) (vs : List Int) : Prop := match vs with
  | [] => True
  | [a] => a = (n : Int)
  | i :: v :: l => ∃ j : Nat, i = (j : Int) ∧ j + (l.length + 1) ≤ n ∧ ∀ (k : Nat) (x : Int), (v :: l)[k]? = some x → f (j + k) = Int32.ofInt x
/-- a cell of the picture, a cell of the world -/
def zCR (rul : Nat → List zI) (cy : Nat → ClassId) (e : Nat → Int) (ad : Nat → Nat) (c : zC) (E : va_E) : Prop := match c.1 with
  | 0 => E = .inr (c.2.1, zst e ad c.2.2.2.2)
  | 1 => ∃ f : Nat → Int32, E = .inl (cy c.2.1, c.2.2.1, .inl f) ∧ c.2.2.2.2.length = c.2.2.1 ∧ ∀ (j : Nat) (a : zA), c.2.2.2.2[j]? = some a → f j = Int32.ofInt (zv e a)
  | 2 => ∃ f : Nat → Int32, E = .inl (cy c.2.1, c.2.2.1, .inl f) ∧ (∀ j : Nat, j < c.2.2.1 → zok (rul c.2.2.2.1) j (f j).toInt) ∧ zX c.2.2.2.1 f (c.2.2.2.2.map (zv e))
  | 5 => ∃ (n : Nat) (f : Nat → Int32), E = .inl (cy c.2.1, n, .inl f) ∧ n ≤ c.2.2.1 ∧ zY n f (c.2.2.2.2.map (zv e))
  | 3 => ∃ g : Nat → Option Nat, E = .inl (cy c.2.1, c.2.2.1, .inr (.inr (.inr (.inr g)))) ∧ c.2.2.2.2.length = c.2.2.1 ∧ ∀ (j : Nat) (a : zA), c.2.2.2.2[j]? = some a → g j = (if a.1 = 3 then none else some (ad a.2.2.1))
  | _ => ∃ f : Nat → Int64, E = .inl (cy c.2.1, c.2.2.1, .inr (.inl f)) ∧ c.2.2.2.2.length = c.2.2.1 ∧ ∀ (j : Nat) (a : zA), c.2.2.2.2[j]? = some a → f j = Int64.ofInt (zv e a)
theorem zmv_ag {n : Nat} {e e' : Nat → Int} {fs : List zA} (h : zag n e e') (hw : ∀ a ∈ fs, zwf n a) : fs.map (zv e') = fs.map (zv e) := List.map_congr_left fun a ha => zv_ag h (hw a ha)
theorem zCR_ag {rul : Nat → List zI} {cy : Nat → ClassId} {n : Nat} {e e' : Nat → Int} {ad : Nat → Nat} {c : zC} {E : va_E} (h : zag n e e') (hw : ∀ a ∈ c.2.2.2.2, zwf n a) (hc : zCR rul cy e ad c E) : zCR rul cy e' ad c E := by
  obtain ⟨t, ci, len, r, fs⟩ := c
  have hw : ∀ a ∈ fs, zwf n a := hw
  match t, hc with
  | 0, hc =>
    have hc : E = .inr (ci, zst e ad fs) := hc
    show E = .inr (ci, zst e' ad fs)
    rw [zst_ag h hw]
    exact hc
  | 1, ⟨f, h1, h2, h3⟩ => exact ⟨f, h1, h2, fun j a ha => by rw [zv_ag h (hw a (List.mem_of_getElem? ha))]; exact h3 j a ha⟩
  | 2, ⟨f, h1, h2, h3⟩ => exact ⟨f, h1, h2, by show zX r f (fs.map (zv e')); rw [zmv_ag h hw]; exact h3⟩
  | 3, ⟨f, h1, h2, h3⟩ => exact ⟨f, h1, h2, h3⟩
  | 5, ⟨n, f, h1, h2, h3⟩ => exact ⟨n, f, h1, h2, by show zY n f (fs.map (zv e')); rw [zmv_ag h hw]; exact h3⟩
  | 4, ⟨f, h1, h2, h3⟩ => exact ⟨f, h1, h2, fun j a ha => by rw [zv_ag h (hw a (List.mem_of_getElem? ha))]; exact h3 j a ha⟩
  | t + 6, ⟨f, h1, h2, h3⟩ => exact ⟨f, h1, h2, fun j a ha => by rw [zv_ag h (hw a (List.mem_of_getElem? ha))]; exact h3 j a ha⟩
def zHR (rul : Nat → List zI) (cy : Nat → ClassId) (e : Nat → Int) (ad : Nat → Nat) (h : List zC) (ws : va_W) : Prop := ws.length = h.length ∧ ∀ (i : Nat) (c : zC), h[i]? = some c → ∃ E : va_E, ws[i]? = some (ad i, E) ∧ zCR rul cy e ad c E
theorem zHR_set {rul : Nat → List zI} {cy : Nat → ClassId} {e : Nat → Int} {ad : Nat → Nat} {h : List zC} {ws : va_W} {i : Nat} {c : zC} {E : va_E} (hr : zHR rul cy e ad h ws) (hc : zCR rul cy e ad c E) : zHR rul cy e ad (h.set i c) (ws.set i (ad i, E)) := by
  refine ⟨by rw [List.length_set, List.length_set]; exact hr.1, fun j d hd => ?_⟩
  by_cases hij : i = j
  · subst hij
    have hl : i < h.length := by
      have := (List.getElem?_eq_some_iff.mp hd).1
      rwa [List.length_set] at this
    rw [List.getElem?_set_self hl] at hd
    cases hd
    exact ⟨E, List.getElem?_set_self (by rw [hr.1]; exact hl), hc⟩
  · rw [List.getElem?_set_ne hij] at hd
    obtain ⟨E2, h1, h2⟩ := hr.2 j d hd
    exact ⟨E2, by rw [List.getElem?_set_ne hij]; exact h1, h2⟩
/-- array types by number -/
def ztys (cy : Nat → ClassId) : List (ClassId × FieldType) := [(cy 0, .int), (cy 1, .long), (cy 2, .object RX1), (cy 3, .array .int)]
/-- the picture holds -/
def zInv (rul : Nat → List zI) (D : va_G) (cy : Nat → ClassId) (ad : Nat → Nat) (A : Nat → Prop) (nL : Nat) (H0 : Heap) (e : Nat → Int) (lc : zL) (st : List zA) (h : List zC) (S : zS) (ws : va_W) (H : Heap) (locs : List Loc) (ls : Array Slot) : Prop :=
  zSat rul e S ∧ (∀ q ∈ lc, zwf S.1.length q.2) ∧ (∀ a ∈ st, zwf S.1.length a) ∧ (∀ c ∈ h, ∀ a ∈ c.2.2.2.2, zwf S.1.length a) ∧ zHR rul cy e ad h ws ∧ va_P D vwCl ws H ∧ va_D A ws ∧ va_S A H0 H locs ∧ lv_has ls nL (zlv e ad lc)
theorem zInv_ext {rul : Nat → List zI} {D : va_G} {cy : Nat → ClassId} {ad : Nat → Nat} {A : Nat → Prop} {nL : Nat} {H0 : Heap} {e e' : Nat → Int} {lc : zL} {st : List zA} {h : List zC} {S S' : zS} {ws : va_W} {H : Heap} {locs : List Loc} {ls : Array Slot}
    (hi : zInv rul D cy ad A nL H0 e lc st h S ws H locs ls) (ha : zag S.1.length e e') (hs : zSat rul e' S') (hn : S.1.length ≤ S'.1.length) : zInv rul D cy ad A nL H0 e' lc st h S' ws H locs ls := by
  obtain ⟨h1, h2, h3, h4, h5, h6, h7, h8, h9⟩ := hi
  refine ⟨hs, fun q hq => zwf_le (h2 q hq) hn, fun a h => zwf_le (h3 a h) hn, fun c hc a h => zwf_le (h4 c hc a h) hn, ⟨h5.1, fun i c hc => ?_⟩, h6, h7, h8, ?_⟩
  · obtain ⟨E, q1, q2⟩ := h5.2 i c hc
    exact ⟨E, q1, zCR_ag ha (h4 c (List.mem_of_getElem? hc)) q2⟩
  · rw [zlv_ag ha h2]
    exact h9
section ZW
variable {rul : Nat → List zI} {D : va_G} {cy : Nat → ClassId} {ad : Nat → Nat} {A : Nat → Prop} {nL : Nat} {e : Nat → Int} {lc : zL} {st : List zA} {h : List zC} {S : zS} {ws : va_W} {H : Heap} {locs : List Loc} {ls : Array Slot}
variable {p : Program} {l : Launch} {ev : Env} {R : Room} {s : State} {m : MethodId} {args : Array Value} {below : List Frame} {meth : Method} {c : Code} {cells slots : Nat} {Q : State → Prop} {cc : ByteArray} {pc : Nat}
/-- where the walk goes on: any machine that the picture fits, its old numbers as they were -/
def zNx (rul : Nat → List zI) (D : va_G) (cy : Nat → ClassId) (ad : Nat → Nat) (A : Nat → Prop) (nL : Nat) (p : Program) (l : Launch) (ev : Env) (R : Room) (s : State) (m : MethodId) (args : Array Value) (below : List Frame) (meth : Method) (c : Code) (cells slots : Nat) (Q : State → Prop) (n : Nat) (e : Nat → Int) (pc : Nat) (lc : zL) (st : List zA) (h : List zC) (S : zS) : Prop :=
  ∀ (e' : Nat → Int) (ws : va_W) (H : Heap) (locs : List Loc) (ls : Array Slot), zag n e e' → n ≤ S.1.length → zInv rul D cy ad A nL s.heap e' lc st h S ws H locs ls → W p l ev R s m args below meth c H locs cells slots Q (F0 m pc ls (zst e' ad st))
theorem zk_iload (hx : p.tables.exec = Jvm.exec) (hb : c.code = cc) {j : Nat} {a : zA} (hi : zInv rul D cy ad A nL s.heap e lc st h S ws H locs ls) (hg : zget lc j = some a) (ht : a.1 = 0) (hd : (∃ k : Fin 4, (k : Nat) = j ∧ decode cc pc = .ok (.iload_n k, 1)))
    (kk : zNx rul D cy ad A nL p l ev R s m args below meth c cells slots Q S.1.length e (pc + 1) lc (a :: st) h S) : W p l ev R s m args below meth c H locs cells slots Q (F0 m pc ls (zst e ad st)) := by
  obtain ⟨k, hk, hd⟩ := hd
  obtain ⟨h1, h2, h3, h4, h5, h6, h7, h8, h9⟩ := id hi
  have hv := zls_get h9 hg
  rw [zval_0 ht] at hv
  refine lv_iload_n hx hb hd hk hv ?_
  have := kk e ws H locs ls (zag_rf _ _) (Nat.le_refl _) ⟨h1, h2, fun b hb => (List.mem_cons.mp hb).elim (fun q => by rw [q]; exact h2 _ (zget_mem hg)) (h3 b), h4, h5, h6, h7, h8, h9⟩
  rw [show zst e ad (a :: st) = Value.int (Int32.ofInt (zv e a)) :: zst e ad st from by unfold zst; rw [List.map_cons, zval_0 ht]] at this
  exact this
end ZW
