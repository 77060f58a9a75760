/-! ===== ends, calls ===== -/
section ZS
variable {l : Launch} {D : va_G} {cy : Nat → ClassId} {ad : Nat → Nat} {A : Nat → Prop} {sa : Nat → Nat} {G : zCf} {rul : Nat → List zI} {bd : Nat}
variable {i pc nc ns m0 n1 Mc Ms : Nat} {k : zK} {e0 es e : Nat → Int} {lc : zL} {st rest : List zA} {h : List zC} {S : zS} {ws : va_W} {H : Heap} {locs : List Loc} {ls : Array Slot} {p : Program} {ev : Env} {s : State} {m : MethodId} {args : Array Value} {below : List Frame} {meth : Method} {c : Code} {o : zO}
theorem zend_of (hi : zInv rul D cy ad A (zmaxL i) s.heap e lc st h S ws H locs ls) (h0 : zag m0 e0 es) (h1 : m0 ≤ n1) (h2 : zag n1 es e) (h3 : n1 ≤ S.1.length) {t : State} (hP : va_P D vwCl ws t.heap) : zEnd rul D cy ad A m0 e0 e h S ws t :=
  ⟨zag_tr h0 h2 h1, Nat.le_trans h1 h3, hi.1, hi.2.2.2.1, hi.2.2.2.2.1, hi.2.2.2.2.2.2.1, hP⟩
theorem zend_i {a : zA} (hat : zAt D cy A sa i p s m args meth c) (hi : zInv rul D cy ad A (zmaxL i) s.heap e lc [a] h S ws H locs ls) (h0 : zag m0 e0 es) (h1 : m0 ≤ n1) (h2 : zag n1 es e) (h3 : n1 ≤ S.1.length) (hnc : nc ≤ Mc) (hns : ns ≤ Ms) (ha : a.1 = 0) (hb : zbl i S a = true) (hk : k (0, a) h S = true) (hd : decode (zcode i) pc = .ok (.ireturn, 1)) :
    W p l ev (zrM G i Mc Ms) s m args below meth c H locs nc ns (vx_MQ below (zQk rul D cy ad A k m0 e0) (zXk rul D cy ad A k m0 e0) args s Mc Ms A) (F0 m pc ls (zst e ad [a])) := by
  obtain ⟨hx, hcb, hml, hown, hts, hK, hF, hlk, hr, het, hA⟩ := hat
  refine W.widen (k := Mc) (n := Ms) hnc hns (vx_ret ?_)
  have hq : ∀ t : State, t.heap = H → s.WarmedH t.vm → zQk rul D cy ad A k m0 e0 args s (.returned (some (.int (Int32.ofInt (zv e a))))) t := fun t ht _ =>
    ⟨⟨e, h, S, ws, (0, a), by show _ = Outcome.returned (some (zval e ad a)); rw [zval_0 ha], Nat.zero_le _, fun _ => ⟨ha, zI_hd hi⟩, hk, zend_of hi h0 h1 h2 h3 (by rw [ht]; exact hi.2.2.2.2.2.1)⟩, hi.2.2.2.2.2.2.2.1.F ht⟩
  show W p l ev (zrM G i Mc Ms) s m args below meth c H locs _ _ _ (F0 m pc ls [zval e ad a])
  rw [zval_0 ha]
  unfold zbl at hb
  cases hz : zret i with
  | none => rw [hz] at hb; cases hb
  | some ty =>
    rw [hz] at hb
    rw [hz] at hr
    cases ty <;> first | (cases hb; done) | skip
    · exact W.iret (hlocks := hlk) hx hcb hr hq hi.2.2.2.2.2.2.2.1.2.2 hd
    · have hb : zin S.1 a 0 1 = true := hb
      obtain ⟨z1, z2⟩ := zin_ok hi.1.1 hb
      have hz3 : zv e a = 0 ∨ zv e a = 1 := by omega
      refine W.zret (hlocks := hlk) hx hcb hr ?_ hq hi.2.2.2.2.2.2.2.1.2.2 hd
      rcases hz3 with hz3 | hz3
      · rw [hz3]; decide +kernel
      · rw [hz3]; decide +kernel
theorem zend_v (hat : zAt D cy A sa i p s m args meth c) (hi : zInv rul D cy ad A (zmaxL i) s.heap e lc [] h S ws H locs ls) (h0 : zag m0 e0 es) (h1 : m0 ≤ n1) (h2 : zag n1 es e) (h3 : n1 ≤ S.1.length) (hnc : nc ≤ Mc) (hns : ns ≤ Ms) (hr0 : zret i = none) (hk : k (1, (0, 0, 0, 0)) h S = true) (hd : decode (zcode i) pc = .ok (.return_, 1)) :
    W p l ev (zrM G i Mc Ms) s m args below meth c H locs nc ns (vx_MQ below (zQk rul D cy ad A k m0 e0) (zXk rul D cy ad A k m0 e0) args s Mc Ms A) (F0 m pc ls (zst e ad [])) := by
  obtain ⟨hx, hcb, hml, hown, hts, hK, hF, hlk, hr, het, hA⟩ := hat
  rw [hr0] at hr
  refine W.widen (k := Mc) (n := Ms) hnc hns (vx_ret ?_)
  exact W.vret (hlocks := hlk) hx hcb hr (fun t ht _ => ⟨⟨e, h, S, ws, (1, (0, 0, 0, 0)), rfl, Nat.le_refl _, fun q => (nomatch q), hk, zend_of hi h0 h1 h2 h3 (by rw [ht]; exact hi.2.2.2.2.2.1)⟩, hi.2.2.2.2.2.2.2.1.F ht⟩) hi.2.2.2.2.2.2.2.1.2.2 hd
theorem zend_x (hl : l.stackTraces = false) (hat : zAt D cy A sa i p s m args meth c) (hi : zInv rul D cy ad A (zmaxL i) s.heap e lc st h S ws H locs ls) (h0 : zag m0 e0 es) (h1 : m0 ≤ n1) (h2 : zag n1 es e) (h3 : n1 ≤ S.1.length) (hg : zgt i pc o = true) (hh : zhh i = []) (r1 : 5 < G.1 i) (r2 : zwords st + 82 ≤ G.2.1 i) (r3 : nc + 1 ≤ Mc) (r4 : ns + 6 ≤ Ms) (hk : k (2, (o.2.2.2.2.1, 0, 0, 0)) h S = true) :
    W p l ev (zrM G i Mc Ms) s m args below meth c H locs nc ns (vx_MQ below (zQk rul D cy ad A k m0 e0) (zXk rul D cy ad A k m0 e0) args s Mc Ms A) (F0 m pc ls (zst e ad st)) := by
  obtain ⟨hx, hcb, hml, hown, hts, hK, hF, hlk, hr, het, hA⟩ := hat
  have h3x : o.2.2.2.2.1 < 3 := by
    have hg2 := hg
    unfold zgt at hg2
    simp only [Bool.and_eq_true, decide_eq_true_eq] at hg2
    exact hg2.1.1.1.1.1.1.2
  have hS := hi.2.2.2.2.2.2.2.1
  refine zk_throw hx hcb hml hown hts hl hF hlk (fun x hx9 => by rw [het, if_pos hh] at hx9; cases hx9) hg hi r1 r2 r3 r4 r3 r4 fun t _ hz hkp => ?_
  refine ⟨⟨e, h, S, ws, o.2.2.2.2.1, h3x, rfl, hk, zend_of hi h0 h1 h2 h3 (hi.2.2.2.2.2.1.kept fun k9 q9 hk9 => hkp _ (hi.2.2.2.2.2.1 k9 q9 hk9).lt)⟩, Nat.le_trans hS.1 hz, fun q q1 q2 => ?_⟩
  rw [hkp q (Nat.lt_of_lt_of_le q1 hS.1)]
  exact hS.2.1 q q1 q2
/-- what a call site's words give -/
theorem zcallB {na : Nat} {j ix : Nat} (hat : zAt D cy A sa i p s m args meth c) (hh : zhh j = []) (hw1 : Cond.methodLink (zy i).cls ix (zy j) ∈ zTg) (hw2 : Cond.initialized (zy j).cls ∈ zTg) (hw3 : zcw j ∈ zTg) (hgn : zgn j na = true) (r1 : G.1 j + 1 ≤ G.1 i) (r2 : 8 + (zmaxL j + 11) + G.2.1 j ≤ G.2.1 i) :
    CallB (zrM G i Mc Ms) s args (zy i).cls ix (zy j) (zcode j) (zmaxL j) (zret j) (zws j) (zrm G j) (G.2.2.1 j) (G.2.2.2.1 j) na := by
  obtain ⟨hx, hcb, hml, hown, hts, hK, hF, hlk, hr, het, hA⟩ := hat
  unfold zgn at hgn
  simp only [Bool.and_eq_true, decide_eq_true_eq] at hgn
  obtain ⟨⟨⟨g1, g2⟩, g3⟩, g4⟩ := hgn
  have hc : zcw j = Cond.code (zy j) (zcode j) (zmaxL j) (zret j) := by unfold zcw; rw [if_pos hh]
  refine ⟨rfl, rfl, r1, r2, pay_in hts fun w hw => ?_, by unfold zws; rw [hc]; exact List.mem_cons_self, by rw [← hc]; exact hts _ hw3, hts _ hw2, ⟨g1, g2⟩, fun sig hsig => ?_, hts _ hw1⟩
  · rcases List.mem_cons.mp hw with rfl | hw
    · exact ⟨hw3, good_of_word (List.mem_filter.mp hw3).2⟩
    · exact ⟨hw, good_of_word (List.mem_filter.mp hw).2⟩
  · rw [hsig] at g3
    exact (Option.some.inj g3).symm
theorem zcallW {na : Nat} {j ix : Nat} (hat : zAt D cy A sa i p s m args meth c) (hh : ¬ zhh j = []) (hw1 : Cond.methodLink (zy i).cls ix (zy j) ∈ zTg) (hw2 : Cond.initialized (zy j).cls ∈ zTg) (hw3 : zcw j ∈ zTg) (hw4 : Cond.static (zy j) ∈ zTg) (hgn : zgn j na = true) (r1 : G.1 j + 1 ≤ G.1 i) (r2 : 8 + (zmaxL j + 11) + G.2.1 j ≤ G.2.1 i) :
    vx_CSW (zrM G i Mc Ms) s args (zy i).cls ix (zy j) (zcode j) (zmaxL j) (zret j) (zhh j) (zws j) (zrm G j) (G.2.2.1 j) (G.2.2.2.1 j) na := by
  obtain ⟨hx, hcb, hml, hown, hts, hK, hF, hlk, hr, het, hA⟩ := hat
  unfold zgn at hgn
  simp only [Bool.and_eq_true, decide_eq_true_eq] at hgn
  obtain ⟨⟨⟨g1, g2⟩, g3⟩, g4⟩ := hgn
  have hc : zcw j = Cond.codeWith (zy j) (zcode j) (zmaxL j) (zret j) (zhh j) := by unfold zcw; rw [if_neg hh]
  refine ⟨⟨rfl, rfl, r1, r2, pay_in hts fun w hw => ?_, by unfold zws; rw [hc]; exact List.mem_cons_self⟩, by rw [← hc]; exact hts _ hw3, hts _ hw2, ⟨g1, g2⟩, fun sig hsig => ?_, hts _ hw1, hts _ hw4⟩
  · rcases List.mem_cons.mp hw with rfl | hw
    · exact ⟨hw3, good_of_word (List.mem_filter.mp hw3).2⟩
    · exact ⟨hw, good_of_word (List.mem_filter.mp hw).2⟩
  · rw [hsig] at g3
    exact (Option.some.inj g3).symm
/-- a call, by the callee's contract -/
theorem zrun {q : List zA × List zA} {kc : zK} {n0 oc os : Nat} {ec : Nat → Int} (hoc : oc + G.2.2.1 i ≤ Mc) (hos : os + G.2.2.2.1 i ≤ Ms) (hat : zAt D cy A sa i p s m args meth c) (hi : zInv rul D cy ad A (zmaxL i) s.heap e lc st h S ws H locs ls) (hg : zgc i pc o = true) (hq : zargs o st h = some q) (hok : zcok G i o q nc ns = true)
    (hM : zMetK l D cy ad A sa G rul o.2.2.1 kc n0 ec ws (zst e ad q.1)) (ho : o.1 = 50 ∨ o.1 = 51) :
    (∃ a : Array Value, vx_Run p l ev (zrM G i Mc Ms) s m args below meth c H locs (oc + nc) (os + ns) (G.2.2.1 o.2.2.1) (G.2.2.2.1 o.2.2.1) (F0 m pc ls (zst e ad st)) (zst e ad q.2) (zQk rul D cy ad A kc n0 ec a) (zXk rul D cy ad A kc n0 ec) A) := by
  have hat2 := hat
  obtain ⟨hx, hcb, hml, hown, hts, hK, hF, hlk, hr, het, hA⟩ := hat2
  unfold zcok at hok
  simp only [Bool.and_eq_true, decide_eq_true_eq] at hok
  obtain ⟨⟨⟨⟨⟨⟨⟨-, k1⟩, k2⟩, k3⟩, k4⟩, k5⟩, -⟩, -⟩ := hok
  have hS := hi.2.2.2.2.2.2.2.1
  have hpre : ∀ U : State, U.heap = H → s.WarmedH U.vm → zPc D cy A sa ws (zst e ad q.1) (zst e ad q.1).toArray U := fun U hU hW => ⟨rfl, by rw [hU]; exact hi.2.2.2.2.2.1, va_K.moved hW.alike hK, zF_go hF hS hU hW, fun z hz => hA z (by rw [hU] at hz; exact Nat.le_trans hS.1 hz)⟩
  have hbl := zPc_bl D cy A sa ws (zst e ad q.1)
  have hwd : ((zst e ad q.2).map fun v => v.category).sum ≤ 8 := by rw [zwords_ok]; exact k5
  have hsz := hi.2.2.2.2.2.2.2.2.1
  unfold zargs at hq
  by_cases hn : o.2.2.2.1 ≤ st.length
  · rw [if_pos hn] at hq
    have hsplit : zst e ad st = zst e ad (st.take o.2.2.2.1) ++ zst e ad (st.drop o.2.2.2.1) := by
      unfold zst
      rw [← List.map_append, List.take_append_drop]
    have hrev : (zst e ad (st.take o.2.2.2.1).reverse).reverse = zst e ad (st.take o.2.2.2.1) := by
      unfold zst
      rw [List.map_reverse, List.reverse_reverse]
    have hlen : (zst e ad (st.take o.2.2.2.1).reverse).length = o.2.2.2.1 := by
      unfold zst
      rw [List.length_map, List.length_reverse, List.length_take]
      omega
    by_cases h50 : o.1 = 50
    · rw [if_pos h50] at hq
      cases hq
      unfold zgc at hg
      rw [if_pos h50] at hg
      simp only [Bool.and_eq_true, decide_eq_true_eq] at hg
      obtain ⟨⟨⟨⟨⟨g1, g2⟩, g3⟩, g4⟩, g5⟩, g6⟩ := hg
      refine ⟨(zst e ad (st.take o.2.2.2.1).reverse).toArray, ?_⟩
      by_cases hh : zhh o.2.2.1 = []
      · exact vx_runS (As := zst e ad (st.take o.2.2.2.1).reverse) (rest := zst e ad (st.drop o.2.2.2.1)) ⟨hx, hcb, hml, hown, hts⟩ hM ⟨zcallB hat hh (zwd_in g2) (zwd_in g4) (zwd_in g5) g6 k1 k2, hts _ (zwd_in g3)⟩ ⟨hbl, hpre⟩ rfl hlen hsz (by show zst e ad st = _; rw [hrev]; exact hsplit) (lv_room hwd) g1 ⟨(by show oc + nc + _ ≤ Mc; omega), (by show os + ns + _ ≤ Ms; omega)⟩
      · exact vx_runSX (As := zst e ad (st.take o.2.2.2.1).reverse) (rest := zst e ad (st.drop o.2.2.2.1)) ⟨hx, hcb, hml, hown, hts⟩ hM (zcallW hat hh (zwd_in g2) (zwd_in g4) (zwd_in g5) (zwd_in g3) g6 k1 k2) ⟨hbl, hpre⟩ rfl hlen hsz (by show zst e ad st = _; rw [hrev]; exact hsplit) (lv_room hwd) g1 ⟨(by show oc + nc + _ ≤ Mc; omega), (by show os + ns + _ ≤ Ms; omega)⟩
    · rw [if_neg h50] at hq
      unfold zgc at hg
      rw [if_neg h50] at hg
      simp only [Bool.and_eq_true, decide_eq_true_eq] at hg
      obtain ⟨⟨⟨⟨⟨⟨⟨g1, g2⟩, g3⟩, g4⟩, g5⟩, g6⟩, g7⟩, g8⟩ := hg
      cases hd : st.drop o.2.2.2.1 with
      | nil => rw [hd] at hq; cases hq
      | cons a r =>
        rw [hd] at hq hsplit
        simp only at hq
        cases hc : h[a.2.2.1]? with
        | none => rw [hc] at hq; cases hq
        | some c9 =>
          rw [hc] at hq
          simp only at hq
          by_cases hc2 : a.1 = 2 ∧ c9.1 = 0 ∧ (vwCl[c9.2.1]?).map (fun q => q.1) = some (zy o.2.2.1).cls
          · rw [if_pos hc2] at hq
            cases hq
            obtain ⟨ha2, hc3, hc4⟩ := hc2
            refine ⟨(Value.ref (ad a.2.2.1) :: zst e ad (st.take o.2.2.2.1).reverse).toArray, ?_⟩
            obtain ⟨c0, c1, cc2, cc3, cc4⟩ := c9
            have hc3 : c0 = 0 := hc3
            subst hc3
            obtain ⟨E, q1, q2⟩ := hi.2.2.2.2.1.2 _ _ hc
            have q2 : E = .inr (c1, zst e ad cc4) := q2
            subst q2
            cases hv : vwCl[c1]? with
            | none => simp only [hv] at hc4; cases hc4
            | some r9 =>
              simp only [hv] at hc4
              have hc5 : r9.1 = (zy o.2.2.1).cls := Option.some.inj hc4
              have hrc := va_recv hK hi.2.2.2.2.2.1 hv q1
              rw [hc5] at hrc
              have hpre2 : ∀ U : State, U.heap = H → s.WarmedH U.vm → zPc D cy A sa ws (zst e ad (a :: (st.take o.2.2.2.1).reverse)) (Value.ref (ad a.2.2.1) :: zst e ad (st.take o.2.2.2.1).reverse).toArray U := fun U hU hW => by
                have := hpre U hU hW
                rw [show zst e ad (a :: (st.take o.2.2.2.1).reverse) = Value.ref (ad a.2.2.1) :: zst e ad (st.take o.2.2.2.1).reverse from by show zval e ad a :: zst e ad (st.take o.2.2.2.1).reverse = _; rw [zval_2 ha2]] at this ⊢
                exact this
              exact vx_runV (C := (zy o.2.2.1).cls) (b := ad a.2.2.1) (As := zst e ad (st.take o.2.2.2.1).reverse) (rest := zst e ad r) ⟨hx, hcb, hml, hown, hts⟩ hM ⟨zcallB hat g8 (zwd_in g2) (zwd_in g5) (zwd_in g6) g7 k1 k2, hts _ (zwd_in g3), hts _ (zwd_in g4)⟩ ⟨hbl, hrc, hpre2⟩ rfl hlen hsz (by show zst e ad st = _; rw [hrev, hsplit]; show _ ++ (zval e ad a :: zst e ad r) = _; rw [zval_2 ha2]) (lv_room hwd) g1 ⟨(by show oc + nc + _ ≤ Mc; omega), (by show os + ns + _ ≤ Ms; omega)⟩
          · rw [if_neg hc2] at hq
            cases hq
  · rw [if_neg hn] at hq
    cases hq
theorem zargs_in {q : List zA × List zA} (hq : zargs o st h = some q) : (∀ b ∈ q.1, b ∈ st) ∧ ∀ b ∈ q.2, b ∈ st := by
  unfold zargs at hq
  by_cases hn : o.2.2.2.1 ≤ st.length
  · rw [if_pos hn] at hq
    by_cases h50 : o.1 = 50
    · rw [if_pos h50] at hq
      cases hq
      exact ⟨fun b hb => List.mem_of_mem_take (List.mem_reverse.mp hb), fun b hb => List.mem_of_mem_drop hb⟩
    · rw [if_neg h50] at hq
      cases hd : st.drop o.2.2.2.1 with
      | nil => rw [hd] at hq; cases hq
      | cons a r =>
        rw [hd] at hq
        simp only at hq
        cases hc : h[a.2.2.1]? with
        | none => rw [hc] at hq; cases hq
        | some c9 =>
          rw [hc] at hq
          simp only at hq
          by_cases hc2 : a.1 = 2 ∧ c9.1 = 0 ∧ (vwCl[c9.2.1]?).map (fun q => q.1) = some (zy o.2.2.1).cls
          · rw [if_pos hc2] at hq
            cases hq
            refine ⟨fun b hb => ?_, fun b hb => List.mem_of_mem_drop (by rw [hd]; exact List.mem_cons_of_mem _ hb)⟩
            rcases List.mem_cons.mp hb with h1 | h1
            · exact List.mem_of_mem_drop (by rw [hd, h1]; exact List.mem_cons_self)
            · exact List.mem_of_mem_take (List.mem_reverse.mp h1)
          · rw [if_neg hc2] at hq
            cases hq
  · rw [if_neg hn] at hq
    cases hq
end ZS
