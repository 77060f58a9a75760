/-! ===== the constructors' walk: straight on, every number known ===== -/
def zty (ci : Nat) : Nat → FieldType := match ci with
  | 0 => tyX0
  | 1 => tyX1
  | 2 => tyX2
  | 3 => tyX3
  | _ => tyX4
/-- a new object's fields -/
def zdf (t : FieldType) : zA := if t.isReference then (3, 0, 0, 0) else (0, 0, 0, 0)
def zdN (ci : Nat) : Nat := match ci with
  | 0 => 12
  | 1 => 5
  | 2 => 5
  | 3 => 12
  | _ => 19
def zdef (ci : Nat) : List zA := (List.range (zdN ci)).map fun k => zdf (zty ci k)
def zbc (G : zCf) (i : Nat) : Nat := if i = 119 then 1000 else G.2.2.1 i
def zbs (G : zCf) (i : Nat) : Nat := if i = 119 then 100000 else G.2.2.2.1 i
abbrev zKi : Type := Nat → zL → List zA → List zC → Nat → Nat → Bool
def zputX (ci k : Nat) (b : zA) (z : FieldType) (S : zS) : Bool := (z.isReference && decide (b.1 = 2)) || (decide (z = .int) && decide (b.1 = 0)) || (decide (z = .boolean) && decide (b.1 = 0) && zin S.1 b 0 1)
def zcok2 (G : zCf) (i j : Nat) (q : List zA × List zA) : Bool := q.1.all (fun a => decide (¬ a.1 = 1)) && decide (G.1 j + 1 ≤ G.1 i) && decide (8 + (zmaxL j + 11) + G.2.1 j ≤ G.2.1 i) && decide (zwords q.2 ≤ 8) && decide (q.1.length ≤ zmaxL j) && decide (¬ j = 119)
/-- the arguments, and what stays on the stack -/
def zargI (o : zO) (st : List zA) : Option (List zA × List zA) := if o.1 = 50 then (if o.2.2.2.1 ≤ st.length then some ((st.take o.2.2.2.1).reverse, st.drop o.2.2.2.1) else none) else (match st with
  | a :: r => if a.1 = 2 then some ([a], r) else none
  | [] => none)
def zini (G : zCf) (rc : Nat → List zI) (alc : Nat → zC) : Nat → Nat → Nat → zL → List zA → List zC → Nat → Nat → zKi → Bool
  | 0, _, _, _, _, _, _, _, _ => false
  | n + 1, i, pc, lc, st, h, nc, ns, k => match zopf (zopl i) pc with
    | none => false
    | some o =>
      if o.1 = 33 ∨ (i = 119 ∧ pc = 23) then k pc lc st h nc ns
      else if o.1 = 70 then (match st with
        | a :: r => decide (a.1 = 2) && decide (1 ≤ G.1 i) && decide (zwords r + 12 ≤ G.2.1 i) && zini G rc alc n i (pc + 3) lc r h nc ns k
        | [] => false)
      else if o.1 = 71 then decide (h.length + 1 ≤ 43) && zrkA h.length lc st h && decide (nc + 1 ≤ zbc G i) && decide (ns + o.2.2.2.1 ≤ zbs G i) && zini G rc alc n i (pc + 3) lc ((2, 0, h.length, 0) :: st) (h ++ [(0, o.2.2.1, 0, 0, zdef o.2.2.1)]) (nc + 1) (ns + o.2.2.2.1) k
      else if o.1 = 72 then (match st with
        | b :: r => decide (h.length + 1 ≤ 43) && zrkA h.length lc r h && decide (b = (0, 0, 0, ((alc h.length).2.2.1 : Int))) && decide ((alc h.length).2.1 = o.2.2.1) && zzr rc (alc h.length) && decide ((alc h.length).2.2.1 ≤ 10000) && decide (nc + 1 ≤ zbc G i) && decide (ns + (alc h.length).2.2.1 ≤ zbs G i) && zini G rc alc n i (pc + 2) lc ((2, 0, h.length, 0) :: r) (h ++ [alc h.length]) (nc + 1) (ns + (alc h.length).2.2.1) k
        | [] => false)
      else if o.1 = 73 then (match st with
        | b :: r => decide (h.length + 1 ≤ 43) && zrkA h.length lc r h && decide (b = (0, 0, 0, 4)) && decide (nc + 1 ≤ zbc G i) && decide (ns + 4 ≤ zbs G i) && zini G rc alc n i (pc + 3) lc ((2, 0, h.length, 0) :: r) (h ++ [(3, 2, 4, 0, List.replicate 4 (3, 0, 0, 0))]) (nc + 1) (ns + 4) k
        | [] => false)
      else if o.1 = 74 then (match st with
        | b :: a :: r => decide (h.length + 4 ≤ 43) && zrkA h.length lc r h && decide (b = (0, 0, 0, 401)) && decide (a = (0, 0, 0, 3)) && zzr rc (alc (h.length + 1)) && decide ((alc (h.length + 1)).1 = 2 ∧ (alc (h.length + 1)).2.2.1 = 401) && decide (nc + 4 ≤ zbc G i) && decide (ns + 1206 ≤ zbs G i) &&
            zini G rc alc n i (pc + 4) lc ((2, 0, h.length, 0) :: r) (h ++ [(3, 3, 3, 0, [(2, 0, h.length + 1, 0), (2, 0, h.length + 2, 0), (2, 0, h.length + 3, 0)]), alc (h.length + 1), alc (h.length + 1), alc (h.length + 1)]) (nc + 4) (ns + 1206) k
        | _ => false)
      else if o.1 = 75 then (match st with
        | b :: a :: r => (match h[a.2.2.1]? with
          | some c => decide (a.1 = 2 ∧ c.1 = 0 ∧ c.2.1 = o.2.2.1 ∧ o.2.2.2.1 < c.2.2.2.2.length) && zputX o.2.2.1 o.2.2.2.1 b (zty o.2.2.1 o.2.2.2.1) ([], [], []) && zini G rc alc n i (pc + 3) lc r (h.set a.2.2.1 (0, o.2.2.1, c.2.2.1, c.2.2.2.1, c.2.2.2.2.set o.2.2.2.1 b)) nc ns k
          | none => false)
        | _ => false)
      else if o.1 = 76 then (match st with
        | v :: b :: a :: r => (match h[a.2.2.1]? with
          | some c => (match h[v.2.2.1]? with
            | some d => decide (a.1 = 2 ∧ v.1 = 2 ∧ c.1 = 3 ∧ c.2.1 = 2 ∧ d.1 = 0 ∧ d.2.1 = 1) && decide (b.1 = 0 ∧ b.2.1 = 0 ∧ b.2.2.1 = 0 ∧ 0 ≤ b.2.2.2 ∧ b.2.2.2.toNat < c.2.2.1 ∧ c.2.2.1 ≤ 100) && zini G rc alc n i (pc + 1) lc r (h.set a.2.2.1 (3, 2, c.2.2.1, c.2.2.2.1, c.2.2.2.2.set b.2.2.2.toNat v)) nc ns k
            | none => false)
          | none => false)
        | _ => false)
      else if o.1 = 77 then (match st with
        | a :: r => (match h[a.2.2.1]? with
          | some c => decide (a.1 = 2 ∧ (c.1 = 2 ∨ c.1 = 1) ∧ c.2.1 = 0 ∧ c.2.2.1 ≤ 10000) && zini G rc alc n i (pc + 1) lc ((0, 0, 0, (c.2.2.1 : Int)) :: r) h nc ns k
          | none => false)
        | [] => false)
      else if o.1 = 78 ∨ o.1 = 50 then (match zargI o st with
        | some q => zcok2 G i o.2.2.1 q && decide (nc + G.2.2.1 o.2.2.1 ≤ zbc G i) && decide (ns + G.2.2.2.1 o.2.2.1 ≤ zbs G i) && zrkA h.length lc q.2 h && decide (zret o.2.2.1 = none ∧ zhh o.2.2.1 = []) && plainName (zy o.2.2.1).cls && zini G rc alc n o.2.2.1 0 (zent 0 q.1) [] h 0 0 (fun _ _ st' h' _ _ => decide (st' = []) && zini G rc alc n i (pc + 3) lc q.2 h' (nc + G.2.2.1 o.2.2.1) (ns + G.2.2.2.1 o.2.2.1) k)
        | none => false)
      else match zsucc rc (G.1 i) (G.2.1 i) i pc o lc st h ([], [], []) with
        | some [t] => decide (t.2.2.2.2.1.length = 0 ∧ t.2.2.2.2.2.1.length = 0 ∧ t.2.2.2.2.2.2.length = 0) && decide (t.2.2.2.1.length = h.length) && zini G rc alc n i t.1 t.2.1 t.2.2.1 t.2.2.2.1 nc ns k
        | _ => false
/-- the listing is right here -/
def zgi (i pc : Nat) (o : zO) : Bool := match o.1 with
  | 70 => decide (decode (zcode i) pc = .ok (.invokespecial o.2.1.toNat, 3)) && zwd (o.2.2.2.2.2.getD 0 0) (.methodLink (zy i).cls o.2.1.toNat objectInit) && zwd (o.2.2.2.2.2.getD 1 0) (.instanceMethod objectInit) && zwd (o.2.2.2.2.2.getD 2 0) (.code objectInit ⟨#[0xb1]⟩ 1 none)
  | 71 => match vwCl[o.2.2.1]? with
    | some r => decide (decode (zcode i) pc = .ok (.new o.2.1.toNat, 3)) && decide (o.2.2.2.1 = r.2.2) && zwd (o.2.2.2.2.2.getD 0 0) (.classLink (zy i).cls o.2.1.toNat r.1) && zwd (o.2.2.2.2.2.getD 1 0) (.instantiable r.1 r.2.2) && zwd (o.2.2.2.2.2.getD 2 0) (.initialized r.1)
    | none => false
  | 72 => (decide (o.2.2.1 = 0) && decide (decode (zcode i) pc = .ok (.newarray .int, 2)) && zwd (o.2.2.2.2.2.getD 0 0) (.arrayClass .int)) || (decide (o.2.2.1 = 1) && decide (decode (zcode i) pc = .ok (.newarray .long, 2)) && zwd (o.2.2.2.2.2.getD 0 0) (.arrayClass .long))
  | 73 => decide (decode (zcode i) pc = .ok (.anewarray o.2.1.toNat, 3)) && zwd (o.2.2.2.2.2.getD 0 0) (.classLink (zy i).cls o.2.1.toNat RX1)
  | 74 => decide (decode (zcode i) pc = .ok (.multianewarray o.2.1.toNat 2, 4)) && zwd (o.2.2.2.2.2.getD 0 0) (.classLink (zy i).cls o.2.1.toNat ("[" ++ (FieldType.array .int).toString)) && zwd (o.2.2.2.2.2.getD 1 0) (.arrayClass .int)
  | 75 => match vwCl[o.2.2.1]? with
    | some r => decide (decode (zcode i) pc = .ok (.putfield o.2.1.toNat, 3)) && decide (o.2.2.2.1 < r.2.2) && zwd o.2.2.2.2.1 (.fieldLink (zy i).cls o.2.1.toNat (r.2.1 o.2.2.2.1).1 (r.2.1 o.2.2.2.1).2.1 (r.2.1 o.2.2.2.1).2.2.1) && (decide ((r.2.1 o.2.2.2.1).2.2.2 = false) || decide ((zy i).name = "<init>" ∧ (r.2.1 o.2.2.2.1).1 = (zy i).cls))
    | none => false
  | 76 => decide (decode (zcode i) pc = .ok (.aastore, 1))
  | 77 => decide (decode (zcode i) pc = .ok (.arraylength, 1))
  | 78 => decide (decode (zcode i) pc = .ok (.invokespecial o.2.1.toNat, 3)) && zwd (o.2.2.2.2.2.getD 0 0) (.methodLink (zy i).cls o.2.1.toNat (zy o.2.2.1)) && zwd (o.2.2.2.2.2.getD 1 0) (.instanceMethod (zy o.2.2.1)) && zwd (o.2.2.2.2.2.getD 2 0) (.initialized (zy o.2.2.1).cls) && zwd (o.2.2.2.2.2.getD 3 0) (zcw o.2.2.1) && zgn o.2.2.1 0 && decide ((zy o.2.2.1).name = "<init>")
  | _ => true
def zOKi : Prop := ∀ (i pc : Nat) (o : zO), zopf (zopl i) pc = some o → zgi i pc o = true
/-- what the classes are -/
theorem zcls {ci : Nat} {r : vw_C} (hr : vwCl[ci]? = some r) : r.2.2 = zdN ci ∧ (∀ k, k < r.2.2 → parseFieldDescriptor (r.2.1 k).2.2.1 = some (zty ci k)) ∧ ∀ a, a < r.2.2 → ∀ b, b < r.2.2 → a ≠ b → (r.2.1 a).2.1 ≠ (r.2.1 b).2.1 := by
  match ci, hr with
  | 0, hr => cases hr; exact ⟨rfl, tyX0_ok, nmX0⟩
  | 1, hr => cases hr; exact ⟨rfl, tyX1_ok, nmX1⟩
  | 2, hr => cases hr; exact ⟨rfl, tyX2_ok, nmX2⟩
  | 3, hr => cases hr; exact ⟨rfl, tyX3_ok, nmX3⟩
  | 4, hr => cases hr; exact ⟨rfl, tyX4_ok, nmX4⟩
  | n + 5, hr => simp at hr
theorem zdv : ∀ ci, ci < 5 → ∀ k, k < zdN ci → defaultValue (zty ci k) = if (zty ci k).isReference then Value.null else .int 0 := by decide +kernel
theorem zdf_val (e : Nat → Int) (ad : Nat → Nat) (t : FieldType) : zval e ad (zdf t) = if t.isReference then Value.null else .int 0 := by
  unfold zdf
  by_cases h : t.isReference = true
  · rw [if_pos h, if_pos h]
    exact zval_3 rfl
  · rw [if_neg h, if_neg h, zval_0 rfl, zv_c]
    rfl
theorem zdef_V {ci : Nat} (e : Nat → Int) (ad : Nat → Nat) (hci : ci < 5) : ∀ j, j < zdN ci → defaultValue (zty ci j) = vp_V (zst e ad (zdef ci)) j := by
  intro j hj
  unfold vp_V zst zdef
  rw [List.getD_eq_getElem?_getD, List.map_map, List.getElem?_map, List.getElem?_range hj]
  show _ = zval e ad (zdf (zty ci j))
  rw [zdf_val, zdv ci hci j hj]
theorem zdef_st (ci : Nat) (e : Nat → Int) (ad ad' : Nat → Nat) : zst e ad (zdef ci) = zst e ad' (zdef ci) := by
  unfold zst zdef
  rw [List.map_map, List.map_map]
  apply List.map_congr_left
  intro k _
  show zval e ad (zdf (zty ci k)) = zval e ad' (zdf (zty ci k))
  rw [zdf_val, zdf_val]
theorem zdef_wf (ci n : Nat) : ∀ a ∈ zdef ci, zwf n a := by
  intro a ha
  unfold zdef at ha
  obtain ⟨k, -, rfl⟩ := List.mem_map.mp ha
  unfold zdf
  split <;> exact Or.inl rfl
/-- what the constructors count on besides -/
def zF2 (U : State) : Prop := va_AO RX1 U ∧ va_AOA .int U
theorem zF2_mv {u U : State} (hvm : u.vm.Alike U.vm) (h : zF2 u) : zF2 U := ⟨va_AO.moved hvm h.1, va_AOA.moved hvm h.2⟩
def zPi (D : va_G) (cy : Nat → ClassId) (A : Nat → Prop) (sa : Nat → Nat) (ws : va_W) (vals : List Value) : Array Value → State → Prop := fun v U => zPc D cy A sa ws vals v U ∧ zF2 U
theorem zPi_bl (D : va_G) (cy : Nat → ClassId) (A : Nat → Prop) (sa : Nat → Nat) (ws : va_W) (vals : List Value) : FrameBlind (zPi D cy A sa ws vals) := fun a U g mk q => ⟨zPc_bl D cy A sa ws vals a U g mk q.1, zF2_mv (u := U) (U := U.calling g mk a) (Vm.Alike.refl U.vm) q.2⟩
abbrev zU : Type := (Nat → Nat) × (Nat → Int) × List zC × va_W
def zBi (rul : Nat → List zI) (D : va_G) (cy : Nat → ClassId) (A : Nat → Prop) (n0 : Nat) (ad0 : Nat → Nat) : zU → State → Prop := fun u t => zaa n0 ad0 u.1 ∧ n0 ≤ u.2.2.1.length ∧ u.2.2.1.length ≤ 43 ∧ (∀ c ∈ u.2.2.1, ∀ a ∈ c.2.2.2.2, zwf 0 a) ∧ zHR rul cy u.2.1 u.1 u.2.2.1 u.2.2.2 ∧ va_D A u.2.2.2 ∧ va_P D vwCl u.2.2.2 t.heap
def zMi (l : Launch) (D : va_G) (cy : Nat → ClassId) (A : Nat → Prop) (sa : Nat → Nat) (G : zCf) (rul : Nat → List zI) (j : Nat) (kh : List zC → Bool) (n0 : Nat) (ad0 : Nat → Nat) (ws : va_W) (vals : List Value) : Prop :=
  Met l (zy j) (zws j) (zrm G j) (zPi D cy A sa ws vals) (va_Qv (S := zU) (fun u => kh u.2.2.1 = true) (zBi rul D cy A n0 ad0) A) (G.2.2.1 j) (G.2.2.2.1 j) A
def zIS (l : Launch) (D : va_G) (cy : Nat → ClassId) (A : Nat → Prop) (sa : Nat → Nat) (G : zCf) (rul rc : Nat → List zI) (alc : Nat → zC) (n : Nat) : Prop :=
  ∀ (i pc : Nat) (lc : zL) (st : List zA) (h : List zC) (nc ns : Nat) (k : zKi), zini G rc alc n i pc lc st h nc ns k = true →
  ∀ (p : Program) (ev : Env) (s : State) (m : MethodId) (args : Array Value) (below : List Frame) (meth : Method) (c : Code) (Q : State → Prop) (n0 : Nat) (ad0 : Nat → Nat) (e : Nat → Int) (ad : Nat → Nat) (ws : va_W) (H : Heap) (locs : List Loc) (ls : Array Slot) (oc os Mc Ms : Nat),
  zAt D cy A sa i p s m args meth c → (i = 119 → zSc rul ad A s) → zF2 s → meth.name = (zy i).name → zInv rul D cy ad A (zmaxL i) s.heap e lc st h ([], [], []) ws H locs ls → zaa n0 ad0 ad → n0 ≤ h.length → h.length ≤ 43 → oc + zbc G i ≤ Mc → os + zbs G i ≤ Ms → nc ≤ zbc G i → ns ≤ zbs G i →
  (∀ (pc' : Nat) (lc' : zL) (st' : List zA) (h' : List zC) (nc' ns' : Nat) (e' : Nat → Int) (ad' : Nat → Nat) (ws' : va_W) (H' : Heap) (locs' : List Loc) (ls' : Array Slot), k pc' lc' st' h' nc' ns' = true → ((∃ o, zopf (zopl i) pc' = some o ∧ o.1 = 33) ∨ (i = 119 ∧ pc' = 23)) → zaa n0 ad0 ad' → n0 ≤ h'.length → h'.length ≤ 43 → nc' ≤ zbc G i → ns' ≤ zbs G i → zInv rul D cy ad' A (zmaxL i) s.heap e' lc' st' h' ([], [], []) ws' H' locs' ls' →
    W p l ev (zrM G i Mc Ms) s m args below meth c H' locs' (oc + nc') (os + ns') Q (F0 m pc' ls' (zst e' ad' st'))) →
  W p l ev (zrM G i Mc Ms) s m args below meth c H locs (oc + nc) (os + ns) Q (F0 m pc ls (zst e ad st))
theorem zSc_ad {rul : Nat → List zI} {ad ad' : Nat → Nat} {A : Nat → Prop} {U : State} {n : Nat} (hz : zaa n ad ad') (h : zSc rul ad A U) : zSc rul ad' A U := by
  obtain ⟨L, xs, h1, h2, h3, h4, h5, h6⟩ := h
  have e := hz.2 43 (Nat.le_refl _)
  exact ⟨L, xs, h1, h2, h3, by rw [e]; exact h4, by rw [e]; exact h5, by rw [e]; exact h6⟩
