/-! ===== the constructors' walk is right: its instructions ===== -/
section ZI
variable {l : Launch} {D : va_G} {cy : Nat → ClassId} {A : Nat → Prop} {sa : Nat → Nat} {G : zCf} {rul rc : Nat → List zI}
variable {i pc : Nat} {o : zO} {e : Nat → Int} {ad : Nat → Nat} {lc : zL} {st : List zA} {h : List zC} {S : zS} {ws : va_W} {H : Heap} {locs : List Loc} {ls : Array Slot} {p : Program} {ev : Env} {s : State} {m : MethodId} {args : Array Value} {below : List Frame} {meth : Method} {c : Code} {Q : State → Prop} {cells slots Mc Ms : Nat} {a b v : zA}
theorem zi_obj (hat : zAt D cy A sa i p s m args meth c) (hi : zInv rul D cy ad A (zmaxL i) s.heap e lc (a :: st) h S ws H locs ls) (hg : zgi i pc o = true) (ho : o.1 = 70) (ha : a.1 = 2) (r1 : 1 ≤ G.1 i) (r2 : zwords st + 12 ≤ G.2.1 i)
    (kk : W p l ev (zrM G i Mc Ms) s m args below meth c H locs cells slots Q (F0 m (pc + 3) ls (zst e ad st))) : W p l ev (zrM G i Mc Ms) s m args below meth c H locs cells slots Q (F0 m pc ls (zst e ad (a :: st))) := by
  obtain ⟨hx, hcb, hml, hown, hts, hK, hF, hlk, hr, het, hA⟩ := hat
  unfold zgi at hg
  simp only [ho, Bool.and_eq_true, decide_eq_true_eq] at hg
  show W p l ev (zrM G i Mc Ms) s m args below meth c H locs cells slots Q (F0 m pc ls (zval e ad a :: zst e ad st))
  rw [zval_2 ha]
  exact W.objInit hx hcb hown (hts _ (zwd_in hg.1.1.2)) (hts _ (zwd_in hg.1.2)) (hts _ (zwd_in hg.2)) (g := F0 m pc ls (.ref (ad a.2.2.1) :: zst e ad st)) rfl (hi.2.2.2.2.2.2.2.2.1.trans hml.symm) rfl hg.1.1.1 r1 (by show 2 * 0 + _ + 12 ≤ G.2.1 i; rw [zwords_ok]; omega) kk
theorem zi_new (hat : zAt D cy A sa i p s m args meth c) (hi : zInv rul D cy ad A (zmaxL i) s.heap e lc st h S ws H locs ls) (hcl : zCl) (hg : zgi i pc o = true) (ho : o.1 = 71) (h43 : h.length + 1 ≤ 43) (hk : zrkA h.length lc st h = true) (hc1 : cells + 1 ≤ Mc) (hs1 : slots + o.2.2.2.1 ≤ Ms)
    (kk : ∀ (ad' : Nat → Nat) (ws' : va_W) (H' : Heap), zaa h.length ad ad' → zInv rul D cy ad' A (zmaxL i) s.heap e lc ((2, 0, h.length, 0) :: st) (h ++ [(0, o.2.2.1, 0, 0, zdef o.2.2.1)]) S ws' H' locs ls → W p l ev (zrM G i Mc Ms) s m args below meth c H' locs (cells + 1) (slots + o.2.2.2.1) Q (F0 m (pc + 3) ls (zst e ad' ((2, 0, h.length, 0) :: st)))) : W p l ev (zrM G i Mc Ms) s m args below meth c H locs cells slots Q (F0 m pc ls (zst e ad st)) := by
  obtain ⟨hx, hcb, hml, hown, hts, hK, hF, hlk, hr, het, hA⟩ := hat
  unfold zgi at hg
  simp only [ho] at hg
  cases hv : vwCl[o.2.2.1]? with
  | none => rw [hv] at hg; cases hg
  | some r =>
    rw [hv] at hg
    simp only [Bool.and_eq_true, decide_eq_true_eq] at hg
    obtain ⟨⟨⟨⟨g1, g2⟩, g3⟩, g4⟩, g5⟩ := hg
    obtain ⟨c1, c2, c3⟩ := zcls hv
    have hci : o.2.2.1 < 5 := (List.getElem?_eq_some_iff.mp hv).1
    rw [g2] at hs1 kk
    refine va_new (D := D) hx hcb hts (hcl _ r hv).1 (zty o.2.2.1) c2 hown (hts _ (zwd_in g3)) (hts _ (zwd_in g4)) (hts _ (zwd_in g5)) hK hi.2.2.2.2.2.1 hi.2.2.2.2.2.2.1 hi.2.2.2.2.2.2.2.1 hA hv (fs := zst e ad (zdef o.2.2.1)) (fun j hj => zdef_V e ad hci j (by rw [← c1]; exact hj)) hc1 hs1 g1 fun q H1 hP1 hD1 hS1 => ?_
    obtain ⟨hI, hst⟩ := zI_grow (cs := [(0, o.2.2.1, 0, 0, zdef o.2.2.1)]) (es := [(q, .inr (o.2.2.1, zst e ad (zdef o.2.2.1)))]) hi rfl h43 hk (fun j c9 x hj hx9 => by
      match j, hj, hx9 with
      | 0, hj, hx9 =>
        cases hj; cases hx9
        show (Sum.inr (o.2.2.1, zst e ad (zdef o.2.2.1)) : va_E) = .inr (o.2.2.1, zst e _ (zdef o.2.2.1))
        exact congrArg (fun z => (Sum.inr (o.2.2.1, z) : va_E)) (zdef_st _ e ad _)
      | j + 1, hj, _ => simp at hj) (fun c9 hc9 => by rw [List.mem_singleton.mp hc9]; exact zdef_wf _ _) hP1 hD1 hS1
    have hz := zgr_aa (ad := ad) (n := h.length) (es := [(q, .inr (o.2.2.1, zst e ad (zdef o.2.2.1)))]) h43
    have := kk _ _ H1 hz (zI_cons hI (Or.inl rfl))
    have e1 : zst e (zgr ad h.length [(q, .inr (o.2.2.1, zst e ad (zdef o.2.2.1)))]) ((2, 0, h.length, 0) :: st) = .ref q :: zst e ad st := by
      show zval e _ (2, 0, h.length, 0) :: zst e _ st = _
      rw [hst, zval_2 rfl]
      have := zgr_at ad h.length [(q, .inr (o.2.2.1, zst e ad (zdef o.2.2.1)))] (j := 0) rfl
      rw [Nat.add_zero] at this
      show Value.ref (zgr ad h.length _ h.length) :: _ = _
      rw [this]
    rw [e1] at this
    exact this
theorem zi_newa {cA : zC} (hrl : ∀ r, r < 100 → rc r = rul r) (hat : zAt D cy A sa i p s m args meth c) (hi : zInv rul D cy ad A (zmaxL i) s.heap e lc (b :: st) h S ws H locs ls) (hg : zgi i pc o = true) (ho : o.1 = 72) (h43 : h.length + 1 ≤ 43) (hk : zrkA h.length lc st h = true) (hb : b = (0, 0, 0, (cA.2.2.1 : Int))) (hty : cA.2.1 = o.2.2.1) (hzz : zzr rc cA = true) (hlen : cA.2.2.1 ≤ 10000) (hc1 : cells + 1 ≤ Mc) (hs1 : slots + cA.2.2.1 ≤ Ms)
    (kk : ∀ (ad' : Nat → Nat) (ws' : va_W) (H' : Heap), zaa h.length ad ad' → zInv rul D cy ad' A (zmaxL i) s.heap e lc ((2, 0, h.length, 0) :: st) (h ++ [cA]) S ws' H' locs ls → W p l ev (zrM G i Mc Ms) s m args below meth c H' locs (cells + 1) (slots + cA.2.2.1) Q (F0 m (pc + 2) ls (zst e ad' ((2, 0, h.length, 0) :: st)))) : W p l ev (zrM G i Mc Ms) s m args below meth c H locs cells slots Q (F0 m pc ls (zst e ad (b :: st))) := by
  obtain ⟨hx, hcb, hml, hown, hts, hK, hF, hlk, hr, het, hA⟩ := hat
  unfold zgi at hg
  simp only [ho, Bool.or_eq_true, Bool.and_eq_true, decide_eq_true_eq] at hg
  subst hb
  show W p l ev (zrM G i Mc Ms) s m args below meth c H locs cells slots Q (F0 m pc ls (zval e ad (0, 0, 0, (cA.2.2.1 : Int)) :: zst e ad st))
  rw [zval_0 rfl, zv_c]
  have hn1 : ¬ Int32.ofInt (cA.2.2.1 : Int) < 0 := fun q => by
    rw [Int32.lt_iff_toInt_lt, z32_i ⟨by omega, by omega⟩] at q
    have : (0 : Int32).toInt = 0 := by decide
    omega
  have hn2 : (Int32.ofInt (cA.2.2.1 : Int)).toNatClampNeg = cA.2.2.1 := by rw [← Int32.toNat_toInt, z32_i ⟨by omega, by omega⟩]; rfl
  have fin : ∀ (q : Nat) (cB : ClassId) (H1 : Heap), cB = cy cA.2.1 → va_P D vwCl (ws ++ [(q, .inl (cB, zz0 cA))]) H1 → va_D A (ws ++ [(q, .inl (cB, zz0 cA))]) → va_S A s.heap H1 locs → W p l ev (zrM G i Mc Ms) s m args below meth c H1 locs (cells + 1) (slots + cA.2.2.1) Q (F0 m (pc + 2) ls (.ref q :: zst e ad st)) := by
    intro q cB H1 hcB hP1 hD1 hS1
    subst hcB
    obtain ⟨hI, hst⟩ := zI_grow (cs := [cA]) (es := [(q, .inl (cy cA.2.1, zz0 cA))]) (zI_tl hi) rfl h43 hk (fun j c9 x hj hx9 => by
      match j, hj, hx9 with
      | 0, hj, hx9 =>
        cases hj; cases hx9
        exact zzr_ok hrl hzz
      | j + 1, hj, _ => simp at hj) (fun c9 hc9 => by rw [List.mem_singleton.mp hc9]; exact zzr_wf hzz) hP1 hD1 hS1
    have hz := zgr_aa (ad := ad) (n := h.length) (es := [(q, .inl (cy cA.2.1, zz0 cA))]) h43
    have := kk _ _ H1 hz (zI_cons hI (Or.inl rfl))
    have e1 : zst e (zgr ad h.length [(q, .inl (cy cA.2.1, zz0 cA))]) ((2, 0, h.length, 0) :: st) = .ref q :: zst e ad st := by
      show zval e _ (2, 0, h.length, 0) :: zst e _ st = _
      rw [hst, zval_2 rfl]
      have := zgr_at ad h.length [(q, .inl (cy cA.2.1, zz0 cA))] (j := 0) rfl
      rw [Nat.add_zero] at this
      show Value.ref (zgr ad h.length _ h.length) :: _ = _
      rw [this]
    rw [e1] at this
    exact this
  have hkind : cA.1 = 4 ↔ cA.2.1 = 1 := by
    unfold zzr at hzz
    simp only [Bool.or_eq_true, Bool.and_eq_true, decide_eq_true_eq] at hzz
    rcases hzz with (⟨⟨⟨h1, h2, -, -⟩, -⟩, -⟩ | ⟨h1, h2, -⟩) | ⟨h1, h2, -⟩ <;> omega
  rcases hg with ⟨⟨g1, g2⟩, g3⟩ | ⟨⟨g1, g2⟩, g3⟩
  · refine va_newa (D := D) (ty := .int) hx hcb (hts _ (zwd_in g3)) rfl hK hi.2.2.2.2.2.1 hi.2.2.2.2.2.2.1 hi.2.2.2.2.2.2.2.1 hA (N' := cA.2.2.1) (a0 := zz0 cA) (fun cB => ?_) hn1 hn2 (by show cA.2.2.1 * 4 ≤ _; omega) hc1 hs1 g2 fun q cB H1 hK1 hP1 hD1 hS1 => fin q cB H1 ?_ hP1 hD1 hS1
    · unfold zz0
      rw [if_neg (by rw [hkind]; omega)]
      rfl
    · rw [hty, g1]
      exact zrul_cls (hK1.2 4 (cB, .int) rfl).2 (hK.2 0 (cy 0, .int) rfl).2
  · refine va_newa (D := D) (ty := .long) hx hcb (hts _ (zwd_in g3)) rfl hK hi.2.2.2.2.2.1 hi.2.2.2.2.2.2.1 hi.2.2.2.2.2.2.2.1 hA (N' := cA.2.2.1) (a0 := zz0 cA) (fun cB => ?_) hn1 hn2 (by show cA.2.2.1 * 8 ≤ _; omega) hc1 hs1 g2 fun q cB H1 hK1 hP1 hD1 hS1 => fin q cB H1 ?_ hP1 hD1 hS1
    · unfold zz0
      rw [if_pos (by rw [hkind]; omega)]
      rfl
    · rw [hty, g1]
      exact zrul_cls (hK1.2 4 (cB, .long) rfl).2 (hK.2 1 (cy 1, .long) rfl).2
theorem zi_anew (hat : zAt D cy A sa i p s m args meth c) (hF2 : zF2 s) (hi : zInv rul D cy ad A (zmaxL i) s.heap e lc (b :: st) h S ws H locs ls) (hg : zgi i pc o = true) (ho : o.1 = 73) (h43 : h.length + 1 ≤ 43) (hk : zrkA h.length lc st h = true) (hb : b = (0, 0, 0, 4)) (hc1 : cells + 1 ≤ Mc) (hs1 : slots + 4 ≤ Ms)
    (kk : ∀ (ad' : Nat → Nat) (ws' : va_W) (H' : Heap), zaa h.length ad ad' → zInv rul D cy ad' A (zmaxL i) s.heap e lc ((2, 0, h.length, 0) :: st) (h ++ [(3, 2, 4, 0, List.replicate 4 (3, 0, 0, 0))]) S ws' H' locs ls → W p l ev (zrM G i Mc Ms) s m args below meth c H' locs (cells + 1) (slots + 4) Q (F0 m (pc + 3) ls (zst e ad' ((2, 0, h.length, 0) :: st)))) : W p l ev (zrM G i Mc Ms) s m args below meth c H locs cells slots Q (F0 m pc ls (zst e ad (b :: st))) := by
  obtain ⟨hx, hcb, hml, hown, hts, hK, hF, hlk, hr, het, hA⟩ := hat
  unfold zgi at hg
  simp only [ho, Bool.and_eq_true, decide_eq_true_eq] at hg
  subst hb
  show W p l ev (zrM G i Mc Ms) s m args below meth c H locs cells slots Q (F0 m pc ls (zval e ad (0, 0, 0, 4) :: zst e ad st))
  rw [zval_0 rfl, zv_c]
  refine va_newq (D := D) hx hcb hown (hts _ (zwd_in hg.2)) hF2.1 hK hi.2.2.2.2.2.1 hi.2.2.2.2.2.2.1 hi.2.2.2.2.2.2.2.1 hA (N' := 4) (by decide) (by decide) (by decide) hc1 hs1 hg.1 fun q cB H1 hK1 hP1 hD1 hS1 => ?_
  have hcB : cB = cy 2 := zrul_cls (hK1.2 4 (cB, .object RX1) rfl).2 (hK.2 2 (cy 2, .object RX1) rfl).2
  subst hcB
  obtain ⟨hI, hst⟩ := zI_grow (cs := [(3, 2, 4, 0, List.replicate 4 (3, 0, 0, 0))]) (es := [(q, .inl (cy 2, 4, .inr (.inr (.inr (.inr (fun _ => none))))))]) (zI_tl hi) rfl h43 hk (fun j c9 x hj hx9 => by
    match j, hj, hx9 with
    | 0, hj, hx9 =>
      cases hj; cases hx9
      refine ⟨fun _ => none, rfl, rfl, fun j a ha => ?_⟩
      rw [List.eq_of_mem_replicate (List.mem_of_getElem? ha)]
      rfl
    | j + 1, hj, _ => simp at hj) (fun c9 hc9 a ha => by rw [List.mem_singleton.mp hc9] at ha; rw [List.eq_of_mem_replicate ha]; exact Or.inl rfl) hP1 hD1 hS1
  have hz := zgr_aa (ad := ad) (n := h.length) (es := [(q, .inl (cy 2, 4, .inr (.inr (.inr (.inr (fun _ => none))))))]) h43
  have := kk _ _ H1 hz (zI_cons hI (Or.inl rfl))
  have e1 : zst e (zgr ad h.length [(q, .inl (cy 2, 4, .inr (.inr (.inr (.inr (fun _ => none))))))]) ((2, 0, h.length, 0) :: st) = .ref q :: zst e ad st := by
    show zval e _ (2, 0, h.length, 0) :: zst e _ st = _
    rw [hst, zval_2 rfl]
    have := zgr_at ad h.length [(q, .inl (cy 2, 4, .inr (.inr (.inr (.inr (fun _ => none))))))] (j := 0) rfl
    rw [Nat.add_zero] at this
    show Value.ref (zgr ad h.length _ h.length) :: _ = _
    rw [this]
  rw [e1] at this
  exact this
theorem zi_mna {cI : zC} (hrl : ∀ r, r < 100 → rc r = rul r) (hat : zAt D cy A sa i p s m args meth c) (hF2 : zF2 s) (hi : zInv rul D cy ad A (zmaxL i) s.heap e lc (b :: a :: st) h S ws H locs ls) (hg : zgi i pc o = true) (ho : o.1 = 74) (h43 : h.length + 4 ≤ 43) (hk : zrkA h.length lc st h = true) (hb : b = (0, 0, 0, 401)) (ha : a = (0, 0, 0, 3)) (hzz : zzr rc cI = true) (hcI : cI.1 = 2 ∧ cI.2.2.1 = 401) (hc1 : cells + 4 ≤ Mc) (hs1 : slots + 1206 ≤ Ms)
    (kk : ∀ (ad' : Nat → Nat) (ws' : va_W) (H' : Heap), zaa h.length ad ad' → zInv rul D cy ad' A (zmaxL i) s.heap e lc ((2, 0, h.length, 0) :: st) (h ++ [(3, 3, 3, 0, [(2, 0, h.length + 1, 0), (2, 0, h.length + 2, 0), (2, 0, h.length + 3, 0)]), cI, cI, cI]) S ws' H' locs ls → W p l ev (zrM G i Mc Ms) s m args below meth c H' locs (cells + 4) (slots + 1206) Q (F0 m (pc + 4) ls (zst e ad' ((2, 0, h.length, 0) :: st)))) : W p l ev (zrM G i Mc Ms) s m args below meth c H locs cells slots Q (F0 m pc ls (zst e ad (b :: a :: st))) := by
  obtain ⟨hx, hcb, hml, hown, hts, hK, hF, hlk, hr, het, hA⟩ := hat
  unfold zgi at hg
  simp only [ho, Bool.and_eq_true, decide_eq_true_eq] at hg
  subst hb
  subst ha
  show W p l ev (zrM G i Mc Ms) s m args below meth c H locs cells slots Q (F0 m pc ls (zval e ad (0, 0, 0, 401) :: zval e ad (0, 0, 0, 3) :: zst e ad st))
  rw [zval_0 rfl, zval_0 rfl, zv_c, zv_c]
  have hty0 : cI.2.1 = 0 := by
    unfold zzr at hzz
    simp only [Bool.or_eq_true, Bool.and_eq_true, decide_eq_true_eq] at hzz
    rcases hzz with (⟨⟨⟨h1, h2, -, -⟩, -⟩, -⟩ | ⟨h1, h2, -⟩) | ⟨h1, h2, -⟩ <;> omega
  have hcy : s.vm.findClass (FieldType.array FieldType.int).toString = some (cy 0) := (hK.2 0 (cy 0, .int) rfl).2
  refine va_mna (D := D) (X := ws) (L := []) (f := fun _ => .inl (0, 0, .inl fun _ => 0)) (cy := cy 0) (ty := .int) (N' := 3) (K' := 401) (z := (401, .inl fun _ => 0)) hx hcb hown (hts _ (zwd_in hg.1.2)) hF2.2 (hts _ (zwd_in hg.2)) hcy hK (by simpa [va_pl] using hi.2.2.2.2.2.1) (by simpa [va_pl] using hi.2.2.2.2.2.2.1) hi.2.2.2.2.2.2.2.1 hA (by decide) (by decide) (by decide) (by decide) (by decide) (by decide) (by decide) rfl rfl hc1 hs1 (fun cB => arrV_new cB 401 (.int 0)) hg.1.1 fun q r cB H1 hinj hnot hK1 hP1 hD1 hS1 => ?_
  have hcB : cB = cy 3 := zrul_cls (hK1.2 4 (cB, .array .int) rfl).2 (hK.2 3 (cy 3, .array .int) rfl).2
  subst hcB
  have hes : (ws ++ [(q, (.inl (cy 3, 3, .inr (.inr (.inr (.inr (fun i => if i < 3 then some (r i) else none))))) : va_E))]) ++ va_pl ([] ++ (List.range 3).map r) (vr_up (fun _ => .inl (0, 0, .inl fun _ => 0)) ((List.range 3).map r) (.inl (cy 0, (401, .inl fun _ => 0)))) = ws ++ [(q, .inl (cy 3, 3, .inr (.inr (.inr (.inr (fun i => if i < 3 then some (r i) else none)))))), (r 0, .inl (cy 0, 401, .inl fun _ => 0)), (r 1, .inl (cy 0, 401, .inl fun _ => 0)), (r 2, .inl (cy 0, 401, .inl fun _ => 0))] := by
    rw [List.append_assoc]
    congr 1
    show (q, _) :: va_pl ((List.range 3).map r) _ = _
    congr 1
    unfold va_pl
    show [(r 0, _), (r 1, _), (r 2, _)] = _
    rw [vr_up_in (by simp [List.range_succ]), vr_up_in (by simp [List.range_succ]), vr_up_in (by simp [List.range_succ])]
  rw [hes] at hP1 hD1
  obtain ⟨E, hE⟩ : ∃ E : va_E, E = .inl (cy 0, 401, .inl fun _ => 0) := ⟨_, rfl⟩
  rw [← hE] at hP1 hD1
  obtain ⟨es, hesd⟩ : ∃ es : va_W, es = [(q, .inl (cy 3, 3, .inr (.inr (.inr (.inr (fun i => if i < 3 then some (r i) else none)))))), (r 0, E), (r 1, E), (r 2, E)] := ⟨_, rfl⟩
  rw [← hesd] at hP1 hD1
  have g0 : es[0]? = some (q, .inl (cy 3, 3, .inr (.inr (.inr (.inr (fun i => if i < 3 then some (r i) else none)))))) := by rw [hesd]; rfl
  have g1 : es[1]? = some (r 0, E) := by rw [hesd]; rfl
  have g2 : es[2]? = some (r 1, E) := by rw [hesd]; rfl
  have g3 : es[3]? = some (r 2, E) := by rw [hesd]; rfl
  have hel : es.length = 4 := by rw [hesd]; rfl
  have hcell : ∀ (ad' : Nat → Nat), zCR rul cy e ad' cI E := fun ad' => by
    have := zzr_ok (rul := rul) (cy := cy) (e := e) (ad := ad') hrl hzz
    have e9 : (Sum.inl (cy cI.2.1, zz0 cI) : va_E) = E := by
      rw [hE, hty0]
      unfold zz0
      rw [hcI.2, if_neg (by rw [hcI.1]; decide)]
    rw [e9] at this
    exact this
  obtain ⟨hI, hst⟩ := zI_grow (cs := [(3, 3, 3, 0, [(2, 0, h.length + 1, 0), (2, 0, h.length + 2, 0), (2, 0, h.length + 3, 0)]), cI, cI, cI]) (es := es) (zI_tl (zI_tl hi)) (by rw [hel]; rfl) (by rw [hel]; exact h43) hk (fun j c9 x hj hx9 => by
    match j, hj, hx9 with
    | 0, hj, hx9 =>
      cases hj
      rw [g0] at hx9
      cases hx9
      refine ⟨fun i => if i < 3 then some (r i) else none, rfl, rfl, fun j a ha => ?_⟩
      match j, ha with
      | 0, ha => cases ha; show some (r 0) = some (zgr ad h.length es (h.length + 1)); rw [zgr_at ad h.length es g1]
      | 1, ha => cases ha; show some (r 1) = some (zgr ad h.length es (h.length + 2)); rw [zgr_at ad h.length es g2]
      | 2, ha => cases ha; show some (r 2) = some (zgr ad h.length es (h.length + 3)); rw [zgr_at ad h.length es g3]
      | j + 3, ha => simp at ha
    | 1, hj, hx9 => cases hj; rw [g1] at hx9; cases hx9; exact hcell _
    | 2, hj, hx9 => cases hj; rw [g2] at hx9; cases hx9; exact hcell _
    | 3, hj, hx9 => cases hj; rw [g3] at hx9; cases hx9; exact hcell _
    | j + 4, hj, _ => simp at hj) (fun c9 hc9 a ha => by
      rcases List.mem_cons.mp hc9 with h9 | h9
      · rw [h9] at ha
        have ha : a ∈ [((2, 0, h.length + 1, 0) : zA), (2, 0, h.length + 2, 0), (2, 0, h.length + 3, 0)] := ha
        simp only [List.mem_cons, List.mem_nil_iff, or_false] at ha
        rcases ha with rfl | rfl | rfl <;> exact Or.inl rfl
      · have : c9 = cI := by
          simp only [List.mem_cons, List.mem_nil_iff, or_false] at h9
          rcases h9 with rfl | rfl | rfl <;> rfl
        rw [this] at ha
        exact zzr_wf hzz a ha) hP1 hD1 hS1
  have hz := zgr_aa (ad := ad) (n := h.length) (es := es) (by rw [hel]; exact h43)
  have := kk _ _ H1 hz (zI_cons hI (Or.inl rfl))
  have e1 : zst e (zgr ad h.length es) ((2, 0, h.length, 0) :: st) = .ref q :: zst e ad st := by
    show zval e _ (2, 0, h.length, 0) :: zst e _ st = _
    rw [hst, zval_2 rfl]
    have := zgr_at ad h.length es (j := 0) g0
    rw [Nat.add_zero] at this
    show Value.ref (zgr ad h.length es h.length) :: _ = _
    rw [this]
  rw [e1] at this
  exact this
end ZI
