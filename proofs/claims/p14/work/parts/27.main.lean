/-! ===== THE WALK IS RIGHT ===== -/
section ZS
variable {l : Launch} {D : va_G} {cy : Nat → ClassId} {ad : Nat → Nat} {A : Nat → Prop} {sa : Nat → Nat} {G : zCf} {rul rc : Nat → List zI} {bd : Nat}
theorem zHc_none {i : Nat} {mu : Option zM} {p : Program} {ev : Env} {s : State} {m : MethodId} {args : Array Value} {below : List Frame} {meth : Method} {c : Code} {Q : State → Prop} {m0 : Nat} {e0 : Nat → Int} {n1 : Nat} {es : Nat → Int} {oc os Mc Ms : Nat} : zHc l D cy ad A G rul i none mu p ev s m args below meth c Q m0 e0 n1 es oc os Mc Ms := fun _ h => nomatch h
theorem zgn_pl {j na : Nat} (h : zgn j na = true) : zpn j = true := by
  unfold zgn at h
  simp only [Bool.and_eq_true] at h
  exact h.2
theorem zgc_pl {i pc : Nat} {o : zO} (h : zgc i pc o = true) : zpn o.2.2.1 = true := by
  unfold zgc at h
  by_cases h5 : o.1 = 50
  · rw [if_pos h5] at h
    simp only [Bool.and_eq_true] at h
    exact zgn_pl h.2
  · rw [if_neg h5] at h
    simp only [Bool.and_eq_true] at h
    exact zgn_pl h.1.2
theorem zlv_drop (e : Nat → Int) (ad : Nat → Nat) (lc : zL) (j : Nat) : (zlv e ad lc).filter (fun q => !(q.1 == j) && !(q.1 + 1 == j && q.2.category == 2)) = zlv e ad (lc.filter (fun w => !(w.1 == j) && !(w.1 + 1 == j && w.2.1 == 1))) := by
  unfold zlv
  rw [List.filter_map]
  congr 1
  apply List.filter_congr
  intro q _
  simp only [Function.comp_apply, zval_cat]
/-- the handler begins by putting the thrown one away -/
theorem zk_hand {i hp nc ns : Nat} {o2 : zO} {e : Nat → Int} {lc : zL} {st : List zA} {h : List zC} {S : zS} {ws : va_W} {H : Heap} {locs : List Loc} {ls : Array Slot} {p : Program} {ev : Env} {R : Room} {s : State} {m : MethodId} {args : Array Value} {below : List Frame} {meth : Method} {c : Code} {Q : State → Prop} {q : Addr}
    (hat : zAt D cy A sa i p s m args meth c) (hi : zInv rul D cy ad A (zmaxL i) s.heap e lc st h S ws H locs ls) (hg : zgd i hp o2 = true) (ho : o2.1 = 7 ∨ o2.1 = 8)
    (kk : ∀ ls' : Array Slot, zInv rul D cy ad A (zmaxL i) s.heap e (lc.filter (fun w => !(w.1 == o2.2.2.1) && !(w.1 + 1 == o2.2.2.1 && w.2.1 == 1))) [] h S ws H locs ls' → W p l ev R s m args below meth c H locs nc ns Q (F0 m (hp + (if o2.1 = 7 then 1 else 2)) ls' [])) :
    W p l ev R s m args below meth c H locs nc ns Q (F0 m hp ls [.ref q]) := by
  obtain ⟨hx, hcb, hml, hown, hts, hK, hF, hlk, hr, het, hA⟩ := hat
  have fin : ∀ ls' : Array Slot, lv_has ls' (zmaxL i) ((o2.2.2.1, Value.ref q) :: (zlv e ad lc).filter (fun q => !(q.1 == o2.2.2.1) && !(q.1 + 1 == o2.2.2.1 && q.2.category == 2))) → zInv rul D cy ad A (zmaxL i) s.heap e (lc.filter (fun w => !(w.1 == o2.2.2.1) && !(w.1 + 1 == o2.2.2.1 && w.2.1 == 1))) [] h S ws H locs ls' := fun ls' hl => by
    rw [zlv_drop] at hl
    exact ⟨hi.1, fun w hw => hi.2.1 w (List.mem_filter.mp hw).1, fun a ha => (nomatch ha), hi.2.2.2.1, hi.2.2.2.2.1, hi.2.2.2.2.2.1, hi.2.2.2.2.2.2.1, hi.2.2.2.2.2.2.2.1, ⟨hl.1, hl.2.1, fun w hw => hl.2.2 w (List.mem_cons_of_mem _ hw)⟩⟩
  unfold zgd at hg
  rcases ho with ho | ho
  · simp only [ho] at hg kk
    split at hg
    · simp only [Bool.and_eq_true, decide_eq_true_eq] at hg
      exact lv_astore_n hx hcb hg.1 rfl hi.2.2.2.2.2.2.2.2 hg.2 rfl fun ls' hl => kk ls' (fin ls' hl)
    · cases hg
  · simp only [ho, Bool.and_eq_true, decide_eq_true_eq] at hg
    have h7 : ¬ o2.1 = 7 := by rw [ho]; decide
    simp only [h7, if_false] at kk
    exact lv_astore hx hcb hg.1 hi.2.2.2.2.2.2.2.2 hg.2 rfl fun ls' hl => kk ls' (fin ls' hl)
set_option maxHeartbeats 4000000 in
theorem zsound (hrl : ∀ r, r < 100 → rc r = rul r) (hl : l.stackTraces = false) (HV : zOK) (hcl : zCl) (HM : ∀ (j : Nat) (ct : zCt), G.2.2.2.2.1 j = some ct → ct.1 < bd → zMetC l D cy ad A sa G rul j ct) (HT : zCatch D cy A sa) : ∀ n : Nat, zSnd l D cy ad A sa G rul rc bd n := by
  intro n
  induction n with
  | zero => intro i n0 mu go pc lc st h S nc ns k hk; unfold zchk at hk; cases hk
  | succ n IH =>
    intro i n0 mu go pc lc st h S nc ns k hk p ev s m args below meth c m0 e0 n1 es e ws H locs ls oc os Mc Ms hat hsc hi h0 h1 h2 h3 hnc hns hoc hos hH
    unfold zchk at hk
    split at hk
    · rename_i cu hcu
      have hcu2 : G.2.2.2.2.2 i pc = some cu := by
        cases go with
        | true => cases hcu
        | false => exact hcu
      unfold zcutok at hk
      cases hn0 : n0 with
      | none => rw [hn0] at hk; cases hk
      | some m' =>
        rw [hn0] at hk
        simp only [Bool.and_eq_true, decide_eq_true_eq] at hk
        obtain ⟨⟨⟨⟨⟨⟨⟨c1, c2⟩, c3⟩, c4⟩, c5⟩, cF⟩, cP⟩, c6⟩ := hk
        subst c1
        obtain ⟨rfl, hmu, hcut⟩ := hH m' hn0
        have hip := zprop_ok hi
        obtain ⟨hI, -⟩ := zmt_ok c5 hip
        have hF := zfcs_ok hip.1 cF
        have hI2 := zI_S (S' := (cu.2.2.1, cu.2.2.2.2.2.2, [])) hI ⟨hI.1.1, fun q hq => by
          have hp := List.all_eq_true.mp cP q hq
          simp only [Bool.and_eq_true] at hp
          exact ⟨zpl_w hp.1, zpl_w hp.2, hF q hq⟩, fun q hq => (nomatch hq)⟩ rfl
        refine W.widen (k := oc + cu.2.2.2.2.1) (n := os + cu.2.2.2.2.2.1) (by omega) (by omega) (hcut pc cu _ ws H locs ls hcu2 hI2 (zec_id c4 (zag_tr h0 h2 h1)) c4 fun u hu => ?_)
        rw [hu] at c6
        have hls := zless_ok hip.1.1 c6
        rw [zmu_ag h2 u.1 (hmu u hu)] at hls
        exact hls
    · split at hk
      · cases hk
      · rename_i o ho
        obtain ⟨v1, v2, v3⟩ := HV i pc o ho
        by_cases c32 : o.1 = 32
        · rw [if_pos c32] at hk
          split at hk
          · rename_i a
            simp only [Bool.and_eq_true, decide_eq_true_eq] at hk
            unfold zgd at v1
            simp only [c32, decide_eq_true_eq] at v1
            exact zend_i hat hi h0 h1 h2 h3 (by omega) (by omega) hk.1.1 hk.1.2 hk.2 v1
          · cases hk
        · rw [if_neg c32] at hk
          by_cases c33 : o.1 = 33
          · rw [if_pos c33] at hk
            split at hk
            · simp only [Bool.and_eq_true, decide_eq_true_eq] at hk
              unfold zgd at v1
              simp only [c33, decide_eq_true_eq] at v1
              exact zend_v hat hi h0 h1 h2 h3 (by omega) (by omega) hk.1 hk.2 v1
            · cases hk
          · rw [if_neg c33] at hk
            by_cases c36 : o.1 = 36
            · rw [if_pos c36] at hk
              simp only [Bool.and_eq_true, decide_eq_true_eq] at hk
              obtain ⟨⟨⟨⟨⟨k1, k2⟩, k3⟩, k4⟩, k5⟩, k6⟩ := hk
              exact zend_x hl hat hi h0 h1 h2 h3 (v3 c36) k1 k2 k3 (by omega) (by omega) k6
            · rw [if_neg c36] at hk
              by_cases c50 : o.1 = 50 ∨ o.1 = 51
              · rw [if_pos c50] at hk
                have hgc := v2 c50
                cases hq : zargs o st h with
                | none => rw [hq] at hk; cases hk
                | some q =>
                  rw [hq] at hk
                  simp only [Bool.and_eq_true] at hk
                  obtain ⟨hok, hk⟩ := hk
                  obtain ⟨hin1, hin2⟩ := zargs_in hq
                  have hok2 := hok
                  unfold zcok at hok2
                  simp only [Bool.and_eq_true, decide_eq_true_eq] at hok2
                  obtain ⟨⟨⟨⟨⟨⟨⟨k0, -⟩, -⟩, k3⟩, k4⟩, -⟩, k6⟩, k7⟩ := hok2
                  have htg : ∀ a ∈ q.1, ¬ a.1 = 1 := fun a ha => of_decide_eq_true (List.all_eq_true.mp k0 a ha)
                  have hir : zInv rul D cy ad A (zmaxL i) s.heap e lc q.2 h S ws H locs ls := zI_st hi fun b hb => hi.2.2.1 b (hin2 b hb)
                  cases hct : G.2.2.2.2.1 o.2.2.1 with
                  | some ct =>
                    rw [hct] at hk
                    simp only [Bool.and_eq_true, decide_eq_true_eq] at hk
                    obtain ⟨⟨⟨⟨b1, b2⟩, b3⟩, bx⟩, b4⟩ := hk
                    have hia : zInv rul D cy ad A (zmaxL i) s.heap e [] q.1 h S ws H locs ls := ⟨hi.1, fun w hw => (nomatch hw), fun b hb => hi.2.2.1 b (hin1 b hb), hi.2.2.2.1, hi.2.2.2.2.1, hi.2.2.2.2.2.1, hi.2.2.2.2.2.2.1, hi.2.2.2.2.2.2.2.1, ⟨hi.2.2.2.2.2.2.2.2.1, hi.2.2.2.2.2.2.2.2.2.1, fun w hw => (nomatch hw)⟩⟩
                    obtain ⟨hI, hv⟩ := zmt_ok b3 hia
                    have hM := HM o.2.2.1 ct hct b1 _ ws hI.1.1 hI.2.2.2.1 hI.2.2.1 hI.2.2.2.2.1 hI.2.2.2.2.2.2.1
                    rw [hv] at hM
                    obtain ⟨ar, hrun⟩ := zrun hoc hos hat hi hgc hq hok hM c50
                    have hwT : ∀ v, v < ct.2.2.2.1.length → zwf S.1.length (ztf (zthk 0 ct.2.2.2.1 (zprs [] [] ct.2.1 q.1 ct.2.2.1 h)) v) := fun v hv9 => by
                      unfold zmt at b3
                      simp only [Bool.and_eq_true] at b3
                      have hz := List.all_eq_true.mp b3.1.1.1.1.1.1.1 v (List.mem_range.mpr hv9)
                      rw [List.getElem?_eq_getElem hv9] at hz
                      exact zin_wf hz
                    have hrun2 := vx_Run_mono hrun (fun st9 oc9 t9 h9 => zconv (T := zthk 0 ct.2.2.2.1 (zprs [] [] ct.2.1 q.1 ct.2.2.1 h)) hi.1 b2 hwT h9) (fun E9 st9 t9 h9 => zconvX (T := zthk 0 ct.2.2.2.1 (zprs [] [] ct.2.1 q.1 ct.2.2.1 h)) hi.1 b2 hwT h9)
                    refine zk_call hrun2 hir (fun e1 h9 S9 ws1 r H1 locs1 r1 r2 hk9 ag len hi9 => ?_) (fun e1 h9 S9 ws1 x H1 locs1 qq ce hx3 hk9 ag len hi9 hce hcv hcl9 => ?_)
                    · unfold zk2 at hk9
                      obtain ⟨hr9, rfl, rfl⟩ := @of_decide_eq_true _ (Classical.propDecidable _) hk9
                      have hr9 : r = zr0 ct.2.2.2.2.1 (zsg S.1.length ct.2.2.2.1.length (zthk 0 ct.2.2.2.1 (zprs [] [] ct.2.1 q.1 ct.2.2.1 h))) := by
                        rcases hr9 with hr9 | ⟨x9, -, hr9⟩
                        · exact hr9
                        · rw [hr9] at r1
                          have r1 : (2 : Nat) ≤ 1 := r1
                          omega
                      subst hr9
                      have hst : ((if (zr0 ct.2.2.2.2.1 (zsg S.1.length ct.2.2.2.1.length (zthk 0 ct.2.2.2.1 (zprs [] [] ct.2.1 q.1 ct.2.2.1 h)))).1 = 0 then some (zval e1 ad (zr0 ct.2.2.2.2.1 (zsg S.1.length ct.2.2.2.1.length (zthk 0 ct.2.2.2.1 (zprs [] [] ct.2.1 q.1 ct.2.2.1 h)))).2) else none : Option Value).toList ++ zst e1 ad q.2) = zst e1 ad (ct.2.2.2.2.1.toList.map (zsb (zsg S.1.length ct.2.2.2.1.length (zthk 0 ct.2.2.2.1 (zprs [] [] ct.2.1 q.1 ct.2.2.1 h)))) ++ q.2) := by
                        cases ct.2.2.2.2.1 with
                        | none => rfl
                        | some a => rfl
                      rw [hst]
                      rw [Nat.add_assoc oc nc, Nat.add_assoc os ns]
                      refine IH i n0 mu false (pc + 3) lc _ _ _ _ _ k b4 p ev s m args below meth c m0 e0 n1 es e1 ws1 H1 locs1 ls oc os Mc Ms hat hsc (zI_st hi9 fun b hb => ?_) h0 h1 (zag_tr h2 ag h3) (Nat.le_trans h3 len) k3 k4 hoc hos hH
                      rcases List.mem_append.mp hb with hb | hb
                      · cases hrt : ct.2.2.2.2.1 with
                        | none => rw [hrt] at hb; cases hb
                        | some a =>
                          rw [hrt] at hb r2
                          rw [List.mem_singleton.mp hb]
                          exact (r2 rfl).2
                      · exact hi9.2.2.1 b hb
                    · unfold zk2 at hk9
                      obtain ⟨hr9, rfl, rfl⟩ := @of_decide_eq_true _ (Classical.propDecidable _) hk9
                      have hxm : x ∈ ct.2.2.2.2.2.2.2 := by
                        rcases hr9 with hr9 | ⟨x9, hm9, hr9⟩
                        · unfold zr0 at hr9
                          split at hr9 <;> cases hr9
                        · have hr9 : ((2, (x, 0, 0, 0)) : zOut) = (2, (x9, 0, 0, 0)) := hr9
                          have : x = x9 := by injection hr9 with _ hr9; injection hr9
                          rw [this]
                          exact hm9
                      have hbx := List.all_eq_true.mp bx x hxm
                      cases hfh : zfh (zhh i) pc x with
                      | none =>
                        rw [hfh] at hbx
                        simp only [Bool.and_eq_true, decide_eq_true_eq] at hbx
                        have hS9 := hi9.2.2.2.2.2.2.2.1
                        exact vx_out (fun z hz => by rw [hat.2.2.2.2.2.2.2.2.2.1, if_pos hbx.1] at hz; cases hz) hat.2.2.2.2.2.2.2.1 hce hcv hcl9 (fun t ht _ => ⟨⟨e1, _, _, ws1, x, hx3, rfl, hbx.2, zend_of hi9 h0 h1 (zag_tr h2 ag h3) (Nat.le_trans h3 len) (by rw [ht]; exact hi9.2.2.2.2.2.1)⟩, hS9.F ht⟩) hS9.2.2 (by omega) (by omega)
                      | some hp =>
                        rw [hfh] at hbx
                        simp only at hbx
                        cases ho2 : zopf (zopl i) hp with
                        | none => rw [ho2] at hbx; cases hbx
                        | some o2 =>
                          rw [ho2] at hbx
                          simp only at hbx
                          refine HT i pc hp x p l ev _ s m args below meth c H1 locs1 _ _ _ ls _ qq ce hat hfh hx3 hce hcv hcl9 ?_
                          by_cases h7 : o2.1 = 7
                          · rw [if_pos h7] at hbx
                            refine zk_hand hat hi9 (HV i hp o2 ho2).1 (Or.inl h7) fun ls' hi10 => ?_
                            rw [if_pos h7, Nat.add_assoc oc nc, Nat.add_assoc os ns]
                            exact IH i n0 mu false (hp + 1) _ [] _ _ _ _ k hbx p ev s m args below meth c m0 e0 n1 es e1 ws1 H1 locs1 ls' oc os Mc Ms hat hsc hi10 h0 h1 (zag_tr h2 ag h3) (Nat.le_trans h3 len) k3 k4 hoc hos hH
                          · rw [if_neg h7] at hbx
                            by_cases h8 : o2.1 = 8
                            · rw [if_pos h8] at hbx
                              refine zk_hand hat hi9 (HV i hp o2 ho2).1 (Or.inr h8) fun ls' hi10 => ?_
                              rw [if_neg h7, Nat.add_assoc oc nc, Nat.add_assoc os ns]
                              exact IH i n0 mu false (hp + 2) _ [] _ _ _ _ k hbx p ev s m args below meth c m0 e0 n1 es e1 ws1 H1 locs1 ls' oc os Mc Ms hat hsc hi10 h0 h1 (zag_tr h2 ag h3) (Nat.le_trans h3 len) k3 k4 hoc hos hH
                            · rw [if_neg h8] at hbx
                              cases hbx
                  | none =>
                    rw [hct] at hk
                    have hM := zmet_of (e := e) (ws := ws) k7 IH hk htg k6 hi.1 (fun b hb => hi.2.2.1 b (hin1 b hb)) hi.2.2.2.1 hi.2.2.2.2.1 hi.2.2.2.2.2.2.1 (zgc_pl hgc) (fun _ _ _ _ _ _ _ _ _ => zHc_none)
                    obtain ⟨ar, hrun⟩ := zrun hoc hos hat hi hgc hq hok hM c50
                    refine zk_call hrun hir (fun e1 h9 S9 ws1 r H1 locs1 r1 r2 hk9 ag len hi9 => ?_) (fun e1 h9 S9 ws1 x H1 locs1 qq ce hx3 hk9 ag len hi9 hce hcv hcl9 => ?_)
                    · by_cases hr0 : r.1 = 0
                      · simp only [hr0, if_true] at hk9
                        rw [if_pos hr0, Nat.add_assoc oc nc, Nat.add_assoc os ns]
                        exact IH i n0 mu false (pc + 3) lc (r.2 :: q.2) h9 S9 _ _ k hk9 p ev s m args below meth c m0 e0 n1 es e1 ws1 H1 locs1 ls oc os Mc Ms hat hsc (zI_cons hi9 (r2 hr0).2) h0 h1 (zag_tr h2 ag h3) (Nat.le_trans h3 len) k3 k4 hoc hos hH
                      · have hr1 : r.1 = 1 := by omega
                        simp only [hr1, if_true] at hk9
                        rw [if_neg hr0, Nat.add_assoc oc nc, Nat.add_assoc os ns]
                        exact IH i n0 mu false (pc + 3) lc q.2 h9 S9 _ _ k hk9 p ev s m args below meth c m0 e0 n1 es e1 ws1 H1 locs1 ls oc os Mc Ms hat hsc hi9 h0 h1 (zag_tr h2 ag h3) (Nat.le_trans h3 len) k3 k4 hoc hos hH
                    · have e20 : ¬ (2 : Nat) = 0 := by decide
                      have e21 : ¬ (2 : Nat) = 1 := by decide
                      simp only [e20, e21, if_false] at hk9
                      cases hfh : zfh (zhh i) pc x with
                      | none =>
                        rw [hfh] at hk9
                        simp only [Bool.and_eq_true, decide_eq_true_eq] at hk9
                        have hS9 := hi9.2.2.2.2.2.2.2.1
                        exact vx_out (fun z hz => by rw [hat.2.2.2.2.2.2.2.2.2.1, if_pos hk9.1] at hz; cases hz) hat.2.2.2.2.2.2.2.1 hce hcv hcl9 (fun t ht _ => ⟨⟨e1, _, _, ws1, x, hx3, rfl, hk9.2, zend_of hi9 h0 h1 (zag_tr h2 ag h3) (Nat.le_trans h3 len) (by rw [ht]; exact hi9.2.2.2.2.2.1)⟩, hS9.F ht⟩) hS9.2.2 (by omega) (by omega)
                      | some hp =>
                        rw [hfh] at hk9
                        simp only at hk9
                        cases ho2 : zopf (zopl i) hp with
                        | none => rw [ho2] at hk9; cases hk9
                        | some o2 =>
                          rw [ho2] at hk9
                          simp only at hk9
                          refine HT i pc hp x p l ev _ s m args below meth c H1 locs1 _ _ _ ls _ qq ce hat hfh hx3 hce hcv hcl9 ?_
                          by_cases h7 : o2.1 = 7
                          · rw [if_pos h7] at hk9
                            refine zk_hand hat hi9 (HV i hp o2 ho2).1 (Or.inl h7) fun ls' hi10 => ?_
                            rw [if_pos h7, Nat.add_assoc oc nc, Nat.add_assoc os ns]
                            exact IH i n0 mu false (hp + 1) _ [] _ _ _ _ k hk9 p ev s m args below meth c m0 e0 n1 es e1 ws1 H1 locs1 ls' oc os Mc Ms hat hsc hi10 h0 h1 (zag_tr h2 ag h3) (Nat.le_trans h3 len) k3 k4 hoc hos hH
                          · rw [if_neg h7] at hk9
                            by_cases h8 : o2.1 = 8
                            · rw [if_pos h8] at hk9
                              refine zk_hand hat hi9 (HV i hp o2 ho2).1 (Or.inr h8) fun ls' hi10 => ?_
                              rw [if_neg h7, Nat.add_assoc oc nc, Nat.add_assoc os ns]
                              exact IH i n0 mu false (hp + 2) _ [] _ _ _ _ k hk9 p ev s m args below meth c m0 e0 n1 es e1 ws1 H1 locs1 ls' oc os Mc Ms hat hsc hi10 h0 h1 (zag_tr h2 ag h3) (Nat.le_trans h3 len) k3 k4 hoc hos hH
                            · rw [if_neg h8] at hk9
                              cases hk9
              · rw [if_neg c50] at hk
                cases hs : zsucc rc (G.1 i) (G.2.1 i) i pc o lc st h S with
                | none => rw [hs] at hk; cases hk
                | some L =>
                  rw [hs] at hk
                  exact zsucc_ok (R := zrM G i Mc Ms) hrl hsc hat.1 hat.2.1 hat.2.2.1 hat.2.2.2.1 hat.2.2.2.2.1 hcl hat.2.2.2.2.2.1 v1 hs hi fun t ht e' ws' H' locs' ls' ag len hi' => IH i n0 mu false t.1 t.2.1 t.2.2.1 t.2.2.2.1 t.2.2.2.2 nc ns k (List.all_eq_true.mp hk t ht) p ev s m args below meth c m0 e0 n1 es e' ws' H' locs' ls' oc os Mc Ms hat hsc hi' h0 h1 (zag_tr h2 ag h3) (Nat.le_trans h3 len) hnc hns hoc hos hH
end ZS
