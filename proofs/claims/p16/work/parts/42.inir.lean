/-! ===== the constructors' walk is right: fields, arrays of objects, lengths ===== -/
section ZI
variable {l : Launch} {D : va_G} {cy : Nat → ClassId} {A : Nat → Prop} {sa : Nat → Nat} {G : zCf} {rul rc : Nat → List zI}
variable {i pc : Nat} {o : zO} {e : Nat → Int} {ad : Nat → Nat} {lc : zL} {st : List zA} {h : List zC} {S : zS} {ws : va_W} {H : Heap} {locs : List Loc} {ls : Array Slot} {p : Program} {ev : Env} {s : State} {m : MethodId} {args : Array Value} {below : List Frame} {meth : Method} {c : Code} {Q : State → Prop} {cells slots Mc Ms : Nat} {a b v : zA}
theorem zputX_ok {ci k : Nat} {z : FieldType} (hi : zSat rul e S) (hx : zputX ci k b z S = true) : narrow z (zval e ad b) = zval e ad b ∧ fits z (zval e ad b) = true := by
  unfold zputX at hx
  simp only [Bool.or_eq_true, Bool.and_eq_true, decide_eq_true_eq] at hx
  rcases hx with (⟨h1, h2⟩ | ⟨rfl, h2⟩) | ⟨⟨rfl, h2⟩, h3⟩
  · rw [zval_2 h2]
    cases z <;> first | exact ⟨rfl, rfl⟩ | cases h1
  · rw [zval_0 h2]
    exact ⟨rfl, rfl⟩
  · rw [zval_0 h2]
    obtain ⟨z1, z2⟩ := zin_ok hi.1 h3
    have hz3 : zv e b = 0 ∨ zv e b = 1 := by omega
    rcases hz3 with hz3 | hz3
    · rw [hz3]; exact ⟨by decide +kernel, by decide +kernel⟩
    · rw [hz3]; exact ⟨by decide +kernel, by decide +kernel⟩
theorem zi_put {len rr : Nat} {fs : List zA} (hat : zAt D cy A sa i p s m args meth c) (hnm : meth.name = (zy i).name) (hcl : zCl) (hi : zInv rul D cy ad A (zmaxL i) s.heap e lc (b :: a :: st) h S ws H locs ls) (hg : zgi i pc o = true) (ho : o.1 = 75) (ha : a.1 = 2) (hh : h[a.2.2.1]? = some (0, o.2.2.1, len, rr, fs)) (hf : o.2.2.2.1 < fs.length) (hx0 : zputX o.2.2.1 o.2.2.2.1 b (zty o.2.2.1 o.2.2.2.1) S = true)
    (kk : ∀ (ws' : va_W) (H' : Heap) (locs' : List Loc), zInv rul D cy ad A (zmaxL i) s.heap e lc st (h.set a.2.2.1 (0, o.2.2.1, len, rr, fs.set o.2.2.2.1 b)) S ws' H' locs' ls → W p l ev (zrM G i Mc Ms) s m args below meth c H' locs' cells slots Q (F0 m (pc + 3) ls (zst e ad st))) : W p l ev (zrM G i Mc Ms) s m args below meth c H locs cells slots Q (F0 m pc ls (zst e ad (b :: a :: st))) := by
  obtain ⟨hx, hcb, hml, hown, hts, hK, hF, hlk, hr, het, hA⟩ := hat
  unfold zgi at hg
  simp only [ho] at hg
  cases hv : vwCl[o.2.2.1]? with
  | none => rw [hv] at hg; cases hg
  | some r =>
    rw [hv] at hg
    simp only [Bool.and_eq_true, Bool.or_eq_true, decide_eq_true_eq] at hg
    obtain ⟨⟨⟨g1, g2⟩, g3⟩, g4⟩ := hg
    obtain ⟨c1, c2, c3⟩ := zcls hv
    obtain ⟨C, T, N⟩ := r
    show W p l ev (zrM G i Mc Ms) s m args below meth c H locs cells slots Q (F0 m pc ls (zval e ad b :: zval e ad a :: zst e ad st))
    rw [zval_2 ha]
    obtain ⟨E, q1, q2⟩ := hi.2.2.2.2.1.2 _ _ hh
    have q2 : E = .inr (o.2.2.1, zst e ad fs) := q2
    subst q2
    obtain ⟨hin, ty0, t1, t2⟩ := hcl o.2.2.1 _ hv
    have hn := zputX_ok (ad := ad) hi.1 hx0
    have hfl : o.2.2.2.1 < (zst e ad fs).length := by unfold zst; rw [List.length_map]; exact hf
    have fin : ∀ (H1 : Heap) (locs1 : List Loc), va_P D vwCl (ws.set a.2.2.1 (ad a.2.2.1, .inr (o.2.2.1, (zst e ad fs).set o.2.2.2.1 (zval e ad b)))) H1 → va_D A (ws.set a.2.2.1 (ad a.2.2.1, .inr (o.2.2.1, (zst e ad fs).set o.2.2.2.1 (zval e ad b)))) → va_S A s.heap H1 locs1 → W p l ev (zrM G i Mc Ms) s m args below meth c H1 locs1 cells slots Q (F0 m (pc + 3) ls (zst e ad st)) := by
      intro H1 locs1 hP1 hD1 hS1
      have hm := List.mem_of_getElem? hh
      have e1 : (zst e ad fs).set o.2.2.2.1 (zval e ad b) = zst e ad (fs.set o.2.2.2.1 b) := by unfold zst; rw [List.map_set]
      rw [e1] at hP1 hD1
      refine kk _ H1 locs1 (zI_hp (zI_tl (zI_tl hi)) (fun c9 hc9 x hx9 => ?_) (zHR_set hi.2.2.2.2.1 (show zCR rul cy e ad (0, o.2.2.1, len, rr, fs.set o.2.2.2.1 b) _ from rfl)) hP1 hD1 hS1)
      rcases List.mem_or_eq_of_mem_set hc9 with z | z
      · exact hi.2.2.2.1 c9 z x hx9
      · rw [z] at hx9
        rcases List.mem_or_eq_of_mem_set hx9 with y | y
        · exact hi.2.2.2.1 _ hm x y
        · rw [y]; exact zI_hd hi
    by_cases hfin : (T o.2.2.2.1).2.2.2 = false
    · exact va_put (D := D) hx hcb hts hin ty0 t1 t2 hown hK hi.2.2.2.2.2.1 hi.2.2.2.2.2.2.1 hi.2.2.2.2.2.2.2.1 _ q1 hv o.2.2.2.1 g2 (hts _ (zwd_in g3)) (fun _ q => q) hfin (c2 _ g2) hn.1 hn.2 hfl g1 fin
    · have g5 := g4.resolve_left hfin
      have hfin2 : (T o.2.2.2.1).2.2.2 = true := by
        cases h9 : (T o.2.2.2.1).2.2.2 with
        | true => rfl
        | false => exact absurd h9 hfin
      exact va_putF (D := D) hx hcb hts hin ty0 t1 t2 hown hK hi.2.2.2.2.2.1 hi.2.2.2.2.2.2.1 hi.2.2.2.2.2.2.2.1 _ q1 hv o.2.2.2.1 g2 (hts _ (zwd_in g3)) (fun _ q => q) hfin2 (hnm.trans g5.1) g5.2 (c2 _ g2) hn.1 hn.2 hfl g1 fin
theorem zi_ast {len rr dl dr : Nat} {fs ds : List zA} {j : Nat} (hat : zAt D cy A sa i p s m args meth c) (hi : zInv rul D cy ad A (zmaxL i) s.heap e lc (v :: b :: a :: st) h S ws H locs ls) (hg : zgi i pc o = true) (ho : o.1 = 76) (ha : a.1 = 2) (hv : v.1 = 2) (hh : h[a.2.2.1]? = some (3, 2, len, rr, fs)) (hd : h[v.2.2.1]? = some (0, 1, dl, dr, ds)) (hb : b = (0, 0, 0, (j : Int))) (hj : j < len) (hlen : len ≤ 100)
    (kk : ∀ (ws' : va_W) (H' : Heap) (locs' : List Loc), zInv rul D cy ad A (zmaxL i) s.heap e lc st (h.set a.2.2.1 (3, 2, len, rr, fs.set j v)) S ws' H' locs' ls → W p l ev (zrM G i Mc Ms) s m args below meth c H' locs' cells slots Q (F0 m (pc + 1) ls (zst e ad st))) : W p l ev (zrM G i Mc Ms) s m args below meth c H locs cells slots Q (F0 m pc ls (zst e ad (v :: b :: a :: st))) := by
  obtain ⟨hx, hcb, hml, hown, hts, hK, hF, hlk, hr, het, hA⟩ := hat
  unfold zgi at hg
  simp only [ho, decide_eq_true_eq] at hg
  show W p l ev (zrM G i Mc Ms) s m args below meth c H locs cells slots Q (F0 m pc ls (zval e ad v :: zval e ad b :: zval e ad a :: zst e ad st))
  have hb0 : b.1 = 0 := by rw [hb]
  rw [zval_2 ha, zval_2 hv, zval_0 hb0, hb, zv_c]
  obtain ⟨E, q1, f, q2, q3, q4⟩ := hi.2.2.2.2.1.2 _ _ hh
  subst q2
  have q3 : fs.length = len := q3
  obtain ⟨E2, r1, r2⟩ := hi.2.2.2.2.1.2 _ _ hd
  have r2 : E2 = .inr (1, zst e ad ds) := r2
  subst r2
  obtain ⟨y1, y2⟩ := zc_in (z := (j : Int)) (n := len) (by omega) (by omega) (by omega)
  have y2 : (Int32.ofInt (j : Int)).toNatClampNeg = j := y2
  obtain ⟨r, hr1⟩ : ∃ r, vwCl[1]? = some r := ⟨_, rfl⟩
  have hr0 : r.1 = RX1 := by cases hr1; rfl
  refine va_astq (D := D) (r := r) hx hcb hK hi.2.2.2.2.2.1 hi.2.2.2.2.2.2.1 hi.2.2.2.2.2.2.2.1 _ 2 _ 1 q1 (by rw [hr0]; rfl) r1 hr1 y1 hg fun H1 locs1 hP1 hD1 hS1 => ?_
  rw [y2] at hP1 hD1
  have hm := List.mem_of_getElem? hh
  refine kk _ H1 locs1 (zI_hp (zI_tl (zI_tl (zI_tl hi))) (zwf_set hi.2.2.2.1 (fun x hx9 => ?_)) (zHR_set hi.2.2.2.2.1 (show zCR rul cy e ad (3, 2, len, rr, fs.set j v) _ from ⟨_, rfl, by show (fs.set j v).length = len; rw [List.length_set]; exact q3, fun k x hk => ?_⟩)) hP1 hD1 hS1)
  · rcases List.mem_or_eq_of_mem_set hx9 with y | y
    · exact hi.2.2.2.1 _ hm x y
    · rw [y]; exact zI_hd hi
  · have hk : (fs.set j v)[k]? = some x := hk
    by_cases hkj : j = k
    · subst hkj
      rw [List.getElem?_set_self (by omega)] at hk
      cases hk
      rw [va_up_self, if_neg (by rw [hv]; decide)]
    · rw [List.getElem?_set_ne hkj] at hk
      rw [va_up_ne _ _ (fun q => hkj q.symm)]
      exact q4 k x hk
theorem zi_len {t len rr : Nat} {fs : List zA} (hat : zAt D cy A sa i p s m args meth c) (hi : zInv rul D cy ad A (zmaxL i) s.heap e lc (a :: st) h S ws H locs ls) (hg : zgi i pc o = true) (ho : o.1 = 77) (ha : a.1 = 2) (hh : h[a.2.2.1]? = some (t, 0, len, rr, fs)) (ht : t = 2 ∨ t = 1)
    (kk : zInv rul D cy ad A (zmaxL i) s.heap e lc ((0, 0, 0, (len : Int)) :: st) h S ws H locs ls → W p l ev (zrM G i Mc Ms) s m args below meth c H locs cells slots Q (F0 m (pc + 1) ls (zst e ad ((0, 0, 0, (len : Int)) :: st)))) : W p l ev (zrM G i Mc Ms) s m args below meth c H locs cells slots Q (F0 m pc ls (zst e ad (a :: st))) := by
  obtain ⟨hx, hcb, hml, hown, hts, hK, hF, hlk, hr, het, hA⟩ := hat
  unfold zgi at hg
  simp only [ho, decide_eq_true_eq] at hg
  show W p l ev (zrM G i Mc Ms) s m args below meth c H locs cells slots Q (F0 m pc ls (zval e ad a :: zst e ad st))
  rw [zval_2 ha]
  have hE : ∃ f : Nat → Int32, ws[a.2.2.1]? = some (ad a.2.2.1, .inl (cy 0, len, .inl f)) := by
    obtain ⟨E, q1, q2⟩ := hi.2.2.2.2.1.2 _ _ hh
    rcases ht with rfl | rfl
    · obtain ⟨f, q3, -, -⟩ := q2
      exact ⟨f, by rw [q1, q3]⟩
    · obtain ⟨f, q3, -, -⟩ := q2
      exact ⟨f, by rw [q1, q3]⟩
  obtain ⟨f, q1⟩ := hE
  have hk := kk (zI_cons (zI_tl hi) (Or.inl rfl))
  have e1 : zst e ad ((0, 0, 0, (len : Int)) :: st) = Value.int (Int32.ofInt (len : Int)) :: zst e ad st := by
    show zval e ad (0, 0, 0, (len : Int)) :: zst e ad st = _
    rw [zval_0 rfl, zv_c]
  rw [e1] at hk
  exact va_alen (D := D) hx hcb hK hi.2.2.2.2.2.1 _ 0 q1 rfl (v := Int32.ofInt (len : Int)) (by rw [Int32.ofInt_eq_ofNat]) hg hk
end ZI
