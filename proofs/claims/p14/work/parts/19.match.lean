/-! ===== a picture seen as an instance of a pattern ===== -/
def zsb (th : Nat → zA) (a : zA) : zA := if a.2.1 = 0 then a else (a.1, a.2.1 * (th a.2.2.1).2.1, (th a.2.2.1).2.2.1, a.2.1 * (th a.2.2.1).2.2.2 + a.2.2.2)
def zsbC (th : Nat → zA) (c : zC) : zC := (c.1, c.2.1, c.2.2.1, c.2.2.2.1, c.2.2.2.2.map (zsb th))
def zec (th : Nat → zA) (e : Nat → Int) : Nat → Int := fun v => zv e (th v)
theorem zsb_v (th : Nat → zA) (e : Nat → Int) (a : zA) : zv e (zsb th a) = zv (zec th e) a := by
  unfold zsb
  by_cases h : a.2.1 = 0
  · rw [if_pos h]
    unfold zv
    rw [h]
    simp
  · rw [if_neg h]
    unfold zec zv
    simp only
    rw [Int.mul_add, Int.mul_assoc, Int.add_assoc]
theorem zsb_val (th : Nat → zA) (e : Nat → Int) (ad : Nat → Nat) {a : zA} (ht : a.1 = 0 ∨ a.1 = 1 ∨ a.2.1 = 0) : zval e ad (zsb th a) = zval (zec th e) ad a := by
  have h1 : (zsb th a).1 = a.1 := by
    unfold zsb
    by_cases h : a.2.1 = 0
    · rw [if_pos h]
    · rw [if_neg h]
  have h2 := zsb_v th e a
  rcases ht with ht | ht | ht
  · rw [zval_0 (h1.trans ht), zval_0 ht, h2]
  · rw [zval_1 (h1.trans ht), zval_1 ht, h2]
  · have h3 : zsb th a = a := by unfold zsb; rw [if_pos ht]
    rw [h3] at h2 ⊢
    unfold zval
    rw [h2]
/-- the pattern's numbers are plain, and within its own -/
def zpl (n : Nat) (a : zA) : Bool := (decide (a.1 = 0) || decide (a.1 = 1) || decide (a.2.1 = 0)) && (decide (a.2.1 = 0) || decide (a.2.2.1 < n))
theorem zpl_t {n : Nat} {a : zA} (h : zpl n a = true) : a.1 = 0 ∨ a.1 = 1 ∨ a.2.1 = 0 := by
  unfold zpl at h
  simp only [Bool.and_eq_true, Bool.or_eq_true, decide_eq_true_eq] at h
  rcases h.1 with (h1 | h1) | h1
  · exact Or.inl h1
  · exact Or.inr (Or.inl h1)
  · exact Or.inr (Or.inr h1)
theorem zpl_w {n : Nat} {a : zA} (h : zpl n a = true) : zwf n a := by
  unfold zpl at h
  simp only [Bool.and_eq_true, Bool.or_eq_true, decide_eq_true_eq] at h
  exact h.2
def zceq (c d : zC) : Bool := decide (c.1 = d.1) && decide (c.2.1 = d.2.1) && decide (c.2.2.1 = d.2.2.1) && decide (c.2.2.2.1 = d.2.2.2.1) && decide (c.2.2.2.2 = d.2.2.2.2)
theorem zceq_ok {c d : zC} (h : zceq c d = true) : c = d := by
  obtain ⟨c0, c1, c2, c3, c4⟩ := c
  obtain ⟨d0, d1, d2, d3, d4⟩ := d
  unfold zceq at h
  simp only [Bool.and_eq_true, decide_eq_true_eq] at h
  obtain ⟨⟨⟨⟨rfl, rfl⟩, rfl⟩, rfl⟩, rfl⟩ := h
  rfl
def zheq : List zC → List zC → Bool
  | [], [] => true
  | c :: l, d :: r => zceq c d && zheq l r
  | _, _ => false
theorem zheq_ok : ∀ {l r : List zC}, zheq l r = true → l = r
  | [], [], _ => rfl
  | [], _ :: _, h => by cases h
  | _ :: _, [], h => by cases h
  | c :: l, d :: r, h => by
    unfold zheq at h
    simp only [Bool.and_eq_true] at h
    rw [zceq_ok h.1, zheq_ok h.2]
/-- the pattern's cell says no more -/
def zcle (S : zS) (c d : zC) : Bool := zceq c d || (decide (c.1 = d.1 ∧ c.2.1 = d.2.1 ∧ c.2.2.1 = d.2.2.1 ∧ c.2.2.2.1 = d.2.2.2.1) && ((decide (c.1 = 2) && zxle S c.2.2.2.1 c.2.2.2.2 d.2.2.2.2) || decide (c.1 = 5 ∧ c.2.2.2.2 = [])))
theorem zcle_ok {rul : Nat → List zI} {cy : Nat → ClassId} {e : Nat → Int} {ad : Nat → Nat} {S : zS} {c d : zC} {E : va_E} (hs : zS1 e S.1) (h : zcle S c d = true) (hd : zCR rul cy e ad d E) : zCR rul cy e ad c E := by
  unfold zcle at h
  simp only [Bool.or_eq_true, Bool.and_eq_true, decide_eq_true_eq] at h
  rcases h with h | ⟨⟨h1, h2, h3, h4⟩, h⟩
  · rw [zceq_ok h]; exact hd
  · obtain ⟨c0, c1, c2, c3, fc⟩ := c
    obtain ⟨d0, d1, d2, d3, fd⟩ := d
    have h1 : c0 = d0 := h1
    have h2 : c1 = d1 := h2
    have h3 : c2 = d2 := h3
    have h4 : c3 = d3 := h4
    subst h1; subst h2; subst h3; subst h4
    rcases h with ⟨h5, h6⟩ | ⟨h5, h6⟩
    · have h5 : c0 = 2 := h5
      subst h5
      obtain ⟨f, q1, q2, q3⟩ := hd
      exact ⟨f, q1, q2, zxle_ok hs h6 q3⟩
    · have h5 : c0 = 5 := h5
      have h6 : fc = [] := h6
      subst h5; subst h6
      obtain ⟨n, f, q1, q2, q3⟩ := hd
      exact ⟨n, f, q1, q2, True.intro⟩
def zhle (S : zS) : List zC → List zC → Bool
  | [], [] => true
  | c :: l, d :: r => zcle S c d && zhle S l r
  | _, _ => false
theorem zhle_len {S : zS} : ∀ {l r : List zC}, zhle S l r = true → l.length = r.length
  | [], [], _ => rfl
  | [], _ :: _, h => by cases h
  | _ :: _, [], h => by cases h
  | c :: l, d :: r, h => by
    unfold zhle at h
    simp only [Bool.and_eq_true] at h
    rw [List.length_cons, List.length_cons, zhle_len h.2]
theorem zhle_at {S : zS} : ∀ {l r : List zC} {i : Nat} {c : zC}, zhle S l r = true → l[i]? = some c → ∃ d, r[i]? = some d ∧ zcle S c d = true
  | [], _, _, _, _, hc => by simp at hc
  | _ :: _, [], _, _, h, _ => by cases h
  | c0 :: l, d :: r, 0, c, h, hc => by
    unfold zhle at h
    simp only [Bool.and_eq_true] at h
    have hc : c0 = c := by simpa using hc
    exact ⟨d, rfl, hc ▸ h.1⟩
  | c0 :: l, d :: r, i + 1, c, h, hc => by
    unfold zhle at h
    simp only [Bool.and_eq_true] at h
    have hc : l[i]? = some c := by simpa using hc
    obtain ⟨d9, h1, h2⟩ := zhle_at h.2 hc
    exact ⟨d9, by simpa using h1, h2⟩
theorem zmap_sb (th : Nat → zA) (e : Nat → Int) (fs : List zA) : (fs.map (zsb th)).map (zv e) = fs.map (zv (zec th e)) := by
  rw [List.map_map]
  exact List.map_congr_left fun a _ => zsb_v th e a
def zmt (th : Nat → zA) (S : zS) (lc : zL) (st : List zA) (h : List zC) (lcT : zL) (stT : List zA) (hT : List zC) (I : List zI) : Bool :=
  (List.range I.length).all (fun v => match I[v]? with
    | some i => zin S.1 (th v) i.1 i.2
    | none => false) &&
  decide (stT.map (zsb th) = st) && zhle S (hT.map (zsbC th)) h && lcT.all (fun q => decide (zget lc q.1 = some (zsb th q.2))) &&
  stT.all (zpl I.length) && lcT.all (fun q => zpl I.length q.2) && hT.all (fun c => c.2.2.2.2.all (zpl I.length)) && hT.all (fun c => decide (¬ c.1 = 3) || c.2.2.2.2.all (fun a => decide (a.2.1 = 0)))
theorem zmt_ok {rul : Nat → List zI} {D : va_G} {cy : Nat → ClassId} {ad : Nat → Nat} {A : Nat → Prop} {nL : Nat} {H0 : Heap} {e : Nat → Int} {lc lcT : zL} {st stT : List zA} {h hT : List zC} {S : zS} {I : List zI} {ws : va_W} {H : Heap} {locs : List Loc} {ls : Array Slot} {th : Nat → zA}
    (hm : zmt th S lc st h lcT stT hT I = true) (hi : zInv rul D cy ad A nL H0 e lc st h S ws H locs ls) : zInv rul D cy ad A nL H0 (zec th e) lcT stT hT (I, [], []) ws H locs ls ∧ zst (zec th e) ad stT = zst e ad st := by
  unfold zmt at hm
  simp only [Bool.and_eq_true, decide_eq_true_eq] at hm
  obtain ⟨⟨⟨⟨⟨⟨⟨m1, m2⟩, m3⟩, m4⟩, m5⟩, m6⟩, m7⟩, m8⟩ := hm
  obtain ⟨h1, h2, h3, h4, h5, h6, h7, h8, h9⟩ := hi
  have hS1 : zS1 (zec th e) I := fun v i hv => by
    have hlt := (List.getElem?_eq_some_iff.mp hv).1
    have := List.all_eq_true.mp m1 v (List.mem_range.mpr hlt)
    rw [hv] at this
    exact zin_ok h1.1 this
  have hst : zst (zec th e) ad stT = zst e ad st := by
    rw [← m2]
    unfold zst
    rw [List.map_map]
    exact List.map_congr_left fun a ha => (zsb_val th e ad (zpl_t (List.all_eq_true.mp m5 a ha))).symm
  refine ⟨⟨⟨hS1, fun q hq => (nomatch hq), fun q hq => (nomatch hq)⟩, fun q hq => zpl_w (List.all_eq_true.mp m6 q hq), fun a ha => zpl_w (List.all_eq_true.mp m5 a ha), fun c hc a ha => zpl_w (List.all_eq_true.mp (List.all_eq_true.mp m7 c hc) a ha), ⟨?_, fun i c hc => ?_⟩, h6, h7, h8, ⟨h9.1, h9.2.1, fun q hq => ?_⟩⟩, hst⟩
  · rw [h5.1, ← zhle_len m3, List.length_map]
  · obtain ⟨d9, hc2, hle⟩ := zhle_at m3 (show (hT.map (zsbC th))[i]? = some (zsbC th c) by rw [List.getElem?_map, hc]; rfl)
    obtain ⟨E, q1, q2⟩ := h5.2 i _ hc2
    have q2 := zcle_ok h1.1 hle q2
    refine ⟨E, q1, ?_⟩
    have hpl := List.all_eq_true.mp (List.all_eq_true.mp m7 c (List.mem_of_getElem? hc))
    obtain ⟨t, ci, len, rr, fs⟩ := c
    have hpl : ∀ a ∈ fs, zpl I.length a = true := hpl
    have hget : ∀ (j : Nat) (a : zA), fs[j]? = some a → (fs.map (zsb th))[j]? = some (zsb th a) := fun j a ha => by rw [List.getElem?_map, ha]; rfl
    match t, q2 with
    | 0, q2 =>
      have q2 : E = .inr (ci, zst e ad (fs.map (zsb th))) := q2
      show E = .inr (ci, zst (zec th e) ad fs)
      rw [q2]
      congr 2
      unfold zst
      rw [List.map_map]
      exact List.map_congr_left fun a ha => zsb_val th e ad (zpl_t (hpl a ha))
    | 1, ⟨f, q3, q4, q5⟩ => exact ⟨f, q3, by have q4 : (fs.map (zsb th)).length = len := q4; rwa [List.length_map] at q4, fun j a ha => by rw [q5 j _ (hget j a ha), zsb_v]⟩
    | 2, ⟨f, q3, q4, q5⟩ => exact ⟨f, q3, q4, by show zX rr f (fs.map (zv (zec th e))); rw [← zmap_sb]; exact q5⟩
    | 5, ⟨n, f, q3, q4, q5⟩ => exact ⟨n, f, q3, q4, by show zY n f (fs.map (zv (zec th e))); rw [← zmap_sb]; exact q5⟩
    | 3, ⟨f, q3, q4, q5⟩ => exact ⟨f, q3, by have q4 : (fs.map (zsb th)).length = len := q4; rwa [List.length_map] at q4, fun j a ha => by
        rw [q5 j _ (hget j a ha)]
        have h12 := List.all_eq_true.mp m8 _ (List.mem_of_getElem? hc)
        simp only [not_true, decide_false, Bool.false_or] at h12
        have h13 := of_decide_eq_true (List.all_eq_true.mp h12 a (List.mem_of_getElem? ha))
        rw [show zsb th a = a from by unfold zsb; rw [if_pos h13]]⟩
    | 4, ⟨f, q3, q4, q5⟩ => exact ⟨f, q3, by have q4 : (fs.map (zsb th)).length = len := q4; rwa [List.length_map] at q4, fun j a ha => by rw [q5 j _ (hget j a ha), zsb_v]⟩
    | t + 6, ⟨f, q3, q4, q5⟩ => exact ⟨f, q3, by have q4 : (fs.map (zsb th)).length = len := q4; rwa [List.length_map] at q4, fun j a ha => by rw [q5 j _ (hget j a ha), zsb_v]⟩
  · obtain ⟨⟨j, a⟩, hm2, rfl⟩ := List.mem_map.mp hq
    have h10 := of_decide_eq_true (List.all_eq_true.mp m4 _ hm2)
    have h11 := zls_get h9 h10
    rw [zsb_val th e ad (zpl_t (List.all_eq_true.mp m6 _ hm2))] at h11
    exact h11
