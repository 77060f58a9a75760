/-! ===== the constructors' walk is right: calls, and all of it ===== -/
section ZI
variable {l : Launch} {D : va_G} {cy : Nat → ClassId} {A : Nat → Prop} {sa : Nat → Nat} {G : zCf} {rul rc : Nat → List zI} {alc : Nat → zC}
variable {i pc : Nat} {o : zO} {e : Nat → Int} {ad : Nat → Nat} {lc : zL} {st : List zA} {h : List zC} {ws : va_W} {H : Heap} {locs : List Loc} {ls : Array Slot} {p : Program} {ev : Env} {s : State} {m : MethodId} {args : Array Value} {below : List Frame} {meth : Method} {c : Code} {Q : State → Prop} {cells slots Mc Ms : Nat}
theorem zargI_in {q : List zA × List zA} (hq : zargI o st = some q) : (∀ b ∈ q.1, b ∈ st) ∧ ∀ b ∈ q.2, b ∈ st := by
  unfold zargI at hq
  by_cases h50 : o.1 = 50
  · rw [if_pos h50] at hq
    by_cases hn : o.2.2.2.1 ≤ st.length
    · rw [if_pos hn] at hq
      cases hq
      exact ⟨fun b hb => List.mem_of_mem_take (List.mem_reverse.mp hb), fun b hb => List.mem_of_mem_drop hb⟩
    · rw [if_neg hn] at hq
      cases hq
  · rw [if_neg h50] at hq
    cases st with
    | nil => cases hq
    | cons a r =>
      simp only at hq
      by_cases ha : a.1 = 2
      · rw [if_pos ha] at hq
        cases hq
        exact ⟨fun b hb => by rw [List.mem_singleton.mp hb]; exact List.mem_cons_self, fun b hb => List.mem_cons_of_mem _ hb⟩
      · rw [if_neg ha] at hq
        cases hq
theorem zi_call {q : List zA × List zA} {kh : List zC → Bool} (hat : zAt D cy A sa i p s m args meth c) (hF2 : zF2 s) (hi : zInv rul D cy ad A (zmaxL i) s.heap e lc st h ([], [], []) ws H locs ls) (hgc : o.1 = 50 ∨ o.1 = 51 → zgc i pc o = true) (hg : zgi i pc o = true) (ho : o.1 = 78 ∨ o.1 = 50) (hq : zargI o st = some q) (hok : zcok2 G i o.2.2.1 q = true) (hrt : zret o.2.2.1 = none) (hh : zhh o.2.2.1 = []) (hk : zrkA h.length lc q.2 h = true)
    (hM : zMi l D cy A sa G rul o.2.2.1 kh h.length ad ws (zst e ad q.1)) (hc1 : cells + G.2.2.1 o.2.2.1 ≤ Mc) (hs1 : slots + G.2.2.2.1 o.2.2.1 ≤ Ms)
    (kk : ∀ (e' : Nat → Int) (ad' : Nat → Nat) (h' : List zC) (ws' : va_W) (H' : Heap) (locs' : List Loc), kh h' = true → zaa h.length ad ad' → h.length ≤ h'.length → h'.length ≤ 43 → zInv rul D cy ad' A (zmaxL i) s.heap e' lc q.2 h' ([], [], []) ws' H' locs' ls → W p l ev (zrM G i Mc Ms) s m args below meth c H' locs' (cells + G.2.2.1 o.2.2.1) (slots + G.2.2.2.1 o.2.2.1) Q (F0 m (pc + 3) ls (zst e' ad' q.2))) :
    W p l ev (zrM G i Mc Ms) s m args below meth c H locs cells slots Q (F0 m pc ls (zst e ad st)) := by
  have hat2 := hat
  obtain ⟨hx, hcb, hml, hown, hts, hK, hF, hlk, hr, het, hA⟩ := hat2
  unfold zcok2 at hok
  simp only [Bool.and_eq_true, decide_eq_true_eq] at hok
  obtain ⟨⟨⟨⟨⟨-, k1⟩, k2⟩, k5⟩, -⟩, -⟩ := hok
  have hS := hi.2.2.2.2.2.2.2.1
  have hin := zargI_in hq
  have hpre : ∀ U : State, U.heap = H → s.WarmedH U.vm → zPi D cy A sa ws (zst e ad q.1) (zst e ad q.1).toArray U := fun U hU hW => ⟨⟨rfl, by rw [hU]; exact hi.2.2.2.2.2.1, va_K.moved hW.alike hK, zF_go hF hS hU hW, fun z hz => hA z (by rw [hU] at hz; exact Nat.le_trans hS.1 hz)⟩, zF2_mv hW.alike hF2⟩
  have hbl := zPi_bl D cy A sa ws (zst e ad q.1)
  have hwd : ((zst e ad q.2).map fun v => v.category).sum ≤ 8 := by rw [zwords_ok]; exact k5
  have hsz := hi.2.2.2.2.2.2.2.2.1
  have hrun : ∃ a : Array Value, va_Run p l ev (zrM G i Mc Ms) s m args below meth c H locs cells slots (G.2.2.1 o.2.2.1) (G.2.2.2.1 o.2.2.1) (F0 m pc ls (zst e ad st)) (zst e ad q.2) (va_Qv (S := zU) (fun u => kh u.2.2.1 = true) (zBi rul D cy A h.length ad) A a) A := by
    unfold zMi at hM
    unfold zargI at hq
    by_cases h50 : o.1 = 50
    · rw [if_pos h50] at hq
      by_cases hn : o.2.2.2.1 ≤ st.length
      · rw [if_pos hn] at hq
        cases hq
        have hsplit : zst e ad st = zst e ad (st.take o.2.2.2.1) ++ zst e ad (st.drop o.2.2.2.1) := by
          unfold zst
          rw [← List.map_append, List.take_append_drop]
        have hrev : (zst e ad (st.take o.2.2.2.1).reverse).reverse = zst e ad (st.take o.2.2.2.1) := by
          unfold zst
          rw [List.map_reverse, List.reverse_reverse]
        have hlen : (zst e ad (st.take o.2.2.2.1).reverse).length = o.2.2.2.1 := by
          unfold zst
          rw [List.length_map, List.length_reverse, List.length_take]
          omega
        have hgc2 := hgc (Or.inl h50)
        unfold zgc at hgc2
        rw [if_pos h50] at hgc2
        simp only [Bool.and_eq_true, decide_eq_true_eq] at hgc2
        obtain ⟨⟨⟨⟨⟨g1, g2⟩, g3⟩, g4⟩, g5⟩, g6⟩ := hgc2
        exact ⟨(zst e ad (st.take o.2.2.2.1).reverse).toArray, va_runS (As := zst e ad (st.take o.2.2.2.1).reverse) (rest := zst e ad (st.drop o.2.2.2.1)) ⟨hx, hcb, hml, hown, hts⟩ hM ⟨zcallB hat hh (zwd_in g2) (zwd_in g4) (zwd_in g5) g6 k1 k2, hts _ (zwd_in g3)⟩ ⟨hbl, hpre⟩ rfl hlen hsz (by show zst e ad st = _; rw [hrev]; exact hsplit) (lv_room hwd) g1 ⟨hc1, hs1⟩⟩
      · rw [if_neg hn] at hq
        cases hq
    · rw [if_neg h50] at hq
      have h78 : o.1 = 78 := ho.resolve_right h50
      cases st with
      | nil => cases hq
      | cons a r =>
        simp only at hq
        by_cases ha : a.1 = 2
        · rw [if_pos ha] at hq
          cases hq
          unfold zgi at hg
          simp only [h78, Bool.and_eq_true, decide_eq_true_eq] at hg
          obtain ⟨⟨⟨⟨⟨⟨g1, g2⟩, g3⟩, g4⟩, g5⟩, g6⟩, g7⟩ := hg
          have e0 : zst e ad [a] = [.ref (ad a.2.2.1)] := by show [zval e ad a] = _; rw [zval_2 ha]
          have hB := zcallB (G := G) (Mc := Mc) (Ms := Ms) hat hh (zwd_in g2) (zwd_in g4) (zwd_in g5) g6 k1 k2
          rw [hrt] at hB
          have hpre2 : ∀ U : State, U.heap = H → s.WarmedH U.vm → zPi D cy A sa ws (zst e ad [a]) (Value.ref (ad a.2.2.1) :: []).toArray U := fun U hU hW => by
            have := hpre U hU hW
            have e1 : ((Value.ref (ad a.2.2.1) :: []).toArray : Array Value) = (zst e ad [a]).toArray := by rw [e0]
            rw [e1]
            exact this
          exact ⟨(Value.ref (ad a.2.2.1) :: []).toArray, va_runI (b := ad a.2.2.1) (As := []) (rest := zst e ad r) (n := 0) ⟨hx, hcb, hml, hown, hts⟩ hM ⟨hB, g7, hts _ (zwd_in g3)⟩ ⟨hbl, hpre2⟩ rfl rfl hsz (by show zval e ad a :: zst e ad r = _; rw [zval_2 ha]; rfl) (lv_room hwd) g1 ⟨hc1, hs1⟩⟩
        · rw [if_neg ha] at hq
          cases hq
  obtain ⟨ar, hrun⟩ := hrun
  obtain ⟨n1, n2, n3, n4⟩ := zrkA_ok hk
  refine va_callv hrun hS (fun _ _ z => z) (fun _ z => z) fun u t H1 locs1 hH1 hvm hkh hB hsz1 hkp hS1 => ?_
  obtain ⟨ad', e', h', ws'⟩ := u
  obtain ⟨hz, hn, h43, hwf, hR, hD, hP⟩ := hB
  have hz : zaa h.length ad ad' := hz
  have ag : zag 0 e e' := fun v hv => absurd hv (Nat.not_lt_zero v)
  have est : zst e' ad' q.2 = zst e ad q.2 := (zst_ad hz n2).trans (zst_ag ag fun b hb => hi.2.2.1 b (hin.2 b hb))
  have elv : zlv e' ad' lc = zlv e ad lc := (zlv_ad hz n1).trans (zlv_ag ag hi.2.1)
  rw [← est]
  exact kk e' ad' h' ws' H1 locs1 hkh hz hn h43 ⟨⟨fun v i hv => by simp at hv, fun q hq => (nomatch hq), fun q hq => (nomatch hq)⟩, hi.2.1, fun b hb => hi.2.2.1 b (hin.2 b hb), hwf, hR, by rw [← hH1]; exact hP, hD, hS1, by rw [elv]; exact hi.2.2.2.2.2.2.2.2⟩
set_option maxHeartbeats 4000000 in
theorem zini_ok (hrl : ∀ r, r < 100 → rc r = rul r) (HV : zOK) (HI : zOKi) (hcl : zCl) : ∀ n : Nat, zIS l D cy A sa G rul rc alc n := by
  intro n
  induction n with
  | zero => intro i pc lc st h nc ns k hk; unfold zini at hk; cases hk
  | succ n IH =>
    intro i pc lc st h nc ns k hk p ev s m args below meth c Q n0 ad0 e ad ws H locs ls oc os Mc Ms hat hsc hF2 hnm hi hz0 hn0 h43 hoc hos hnc hns kk
    unfold zini at hk
    split at hk
    · cases hk
    · rename_i o ho
      obtain ⟨v1, v2, v3⟩ := HV i pc o ho
      have vi := HI i pc o ho
      by_cases c33 : o.1 = 33 ∨ (i = 119 ∧ pc = 23)
      · rw [if_pos c33] at hk
        refine kk pc lc st h nc ns e ad ws H locs ls hk ?_ hz0 hn0 h43 hnc hns hi
        rcases c33 with c | c
        · exact Or.inl ⟨o, ho, c⟩
        · exact Or.inr c
      rw [if_neg c33] at hk
      by_cases c70 : o.1 = 70
      · rw [if_pos c70] at hk
        split at hk
        · rename_i a r
          simp only [Bool.and_eq_true, decide_eq_true_eq] at hk
          obtain ⟨⟨⟨k1, k2⟩, k3⟩, k4⟩ := hk
          exact zi_obj hat hi vi c70 k1 k2 k3 (IH i (pc + 3) lc r h nc ns k k4 p ev s m args below meth c Q n0 ad0 e ad ws H locs ls oc os Mc Ms hat hsc hF2 hnm (zI_tl hi) hz0 hn0 h43 hoc hos hnc hns kk)
        · cases hk
      rw [if_neg c70] at hk
      by_cases c71 : o.1 = 71
      · rw [if_pos c71] at hk
        simp only [Bool.and_eq_true, decide_eq_true_eq] at hk
        obtain ⟨⟨⟨⟨k1, k2⟩, k3⟩, k4⟩, k5⟩ := hk
        refine zi_new hat hi hcl vi c71 k1 k2 (by omega) (by omega) fun ad' ws' H' hz hI => ?_
        rw [Nat.add_assoc oc nc, Nat.add_assoc os ns]
        exact IH i (pc + 3) lc _ _ (nc + 1) (ns + o.2.2.2.1) k k5 p ev s m args below meth c Q n0 ad0 e ad' ws' H' locs ls oc os Mc Ms hat (fun q => zSc_ad hz (hsc q)) hF2 hnm hI (zaa_tr hz0 hz hn0) (by rw [List.length_append]; omega) (by rw [List.length_append]; exact k1) hoc hos k3 k4 kk
      rw [if_neg c71] at hk
      by_cases c72 : o.1 = 72
      · rw [if_pos c72] at hk
        split at hk
        · rename_i b r
          simp only [Bool.and_eq_true, decide_eq_true_eq] at hk
          obtain ⟨⟨⟨⟨⟨⟨⟨⟨k1, k2⟩, k3⟩, k4⟩, k5⟩, k6⟩, k7⟩, k8⟩, k9⟩ := hk
          refine zi_newa (cA := alc h.length) hrl hat hi vi c72 k1 k2 k3 k4 k5 k6 (by omega) (by omega) fun ad' ws' H' hz hI => ?_
          rw [Nat.add_assoc oc nc, Nat.add_assoc os ns]
          exact IH i (pc + 2) lc _ _ (nc + 1) (ns + (alc h.length).2.2.1) k k9 p ev s m args below meth c Q n0 ad0 e ad' ws' H' locs ls oc os Mc Ms hat (fun q => zSc_ad hz (hsc q)) hF2 hnm hI (zaa_tr hz0 hz hn0) (by rw [List.length_append]; omega) (by rw [List.length_append]; exact k1) hoc hos k7 k8 kk
        · cases hk
      rw [if_neg c72] at hk
      by_cases c73 : o.1 = 73
      · rw [if_pos c73] at hk
        split at hk
        · rename_i b r
          simp only [Bool.and_eq_true, decide_eq_true_eq] at hk
          obtain ⟨⟨⟨⟨⟨k1, k2⟩, k3⟩, k4⟩, k5⟩, k6⟩ := hk
          refine zi_anew hat hF2 hi vi c73 k1 k2 k3 (by omega) (by omega) fun ad' ws' H' hz hI => ?_
          rw [Nat.add_assoc oc nc, Nat.add_assoc os ns]
          exact IH i (pc + 3) lc _ _ (nc + 1) (ns + 4) k k6 p ev s m args below meth c Q n0 ad0 e ad' ws' H' locs ls oc os Mc Ms hat (fun q => zSc_ad hz (hsc q)) hF2 hnm hI (zaa_tr hz0 hz hn0) (by rw [List.length_append]; omega) (by rw [List.length_append]; exact k1) hoc hos k4 k5 kk
        · cases hk
      rw [if_neg c73] at hk
      by_cases c74 : o.1 = 74
      · rw [if_pos c74] at hk
        split at hk
        · rename_i b a r
          simp only [Bool.and_eq_true, decide_eq_true_eq] at hk
          obtain ⟨⟨⟨⟨⟨⟨⟨⟨k1, k2⟩, k3⟩, k4⟩, k5⟩, k6⟩, k7⟩, k8⟩, k9⟩ := hk
          refine zi_mna (cI := alc (h.length + 1)) hrl hat hF2 hi vi c74 k1 k2 k3 k4 k5 k6 (by omega) (by omega) fun ad' ws' H' hz hI => ?_
          rw [Nat.add_assoc oc nc, Nat.add_assoc os ns]
          exact IH i (pc + 4) lc _ _ (nc + 4) (ns + 1206) k k9 p ev s m args below meth c Q n0 ad0 e ad' ws' H' locs ls oc os Mc Ms hat (fun q => zSc_ad hz (hsc q)) hF2 hnm hI (zaa_tr hz0 hz hn0) (by rw [List.length_append]; omega) (by rw [List.length_append]; exact k1) hoc hos k7 k8 kk
        · cases hk
      rw [if_neg c74] at hk
      by_cases c75 : o.1 = 75
      · rw [if_pos c75] at hk
        split at hk
        · rename_i b a r
          split at hk
          · rename_i c9 hc9
            simp only [Bool.and_eq_true, decide_eq_true_eq] at hk
            obtain ⟨⟨⟨k1, k2, k3, k4⟩, k5⟩, k6⟩ := hk
            obtain ⟨t, ci, len, rr, fs⟩ := c9
            have k2 : t = 0 := k2
            have k3 : ci = o.2.2.1 := k3
            subst k2
            subst k3
            refine zi_put hat hnm hcl hi vi c75 k1 hc9 k4 k5 fun ws' H' locs' hI => ?_
            exact IH i (pc + 3) lc r _ nc ns k k6 p ev s m args below meth c Q n0 ad0 e ad ws' H' locs' ls oc os Mc Ms hat hsc hF2 hnm hI hz0 (by rw [List.length_set]; exact hn0) (by rw [List.length_set]; exact h43) hoc hos hnc hns kk
          · cases hk
        · cases hk
      rw [if_neg c75] at hk
      by_cases c76 : o.1 = 76
      · rw [if_pos c76] at hk
        split at hk
        · rename_i v b a r
          split at hk
          · rename_i c9 hc9
            split at hk
            · rename_i d9 hd9
              simp only [Bool.and_eq_true, decide_eq_true_eq] at hk
              obtain ⟨⟨⟨k1, k2, k3, k4, k5, k6⟩, k7, k8, k9, k10, k11, k12⟩, k13⟩ := hk
              obtain ⟨t, ci, len, rr, fs⟩ := c9
              obtain ⟨t2, ci2, len2, rr2, fs2⟩ := d9
              obtain ⟨b1, b2, b3, b4⟩ := b
              have k3 : t = 3 := k3
              have k4 : ci = 2 := k4
              have k5 : t2 = 0 := k5
              have k6 : ci2 = 1 := k6
              have k7 : b1 = 0 := k7
              have k8 : b2 = 0 := k8
              have k9 : b3 = 0 := k9
              subst k3; subst k4; subst k5; subst k6; subst k7; subst k8; subst k9
              refine zi_ast (j := b4.toNat) hat hi vi c76 k1 k2 hc9 hd9 (by rw [Int.toNat_of_nonneg k10]) k11 k12 fun ws' H' locs' hI => ?_
              exact IH i (pc + 1) lc r _ nc ns k k13 p ev s m args below meth c Q n0 ad0 e ad ws' H' locs' ls oc os Mc Ms hat hsc hF2 hnm hI hz0 (by rw [List.length_set]; exact hn0) (by rw [List.length_set]; exact h43) hoc hos hnc hns kk
            · cases hk
          · cases hk
        · cases hk
      rw [if_neg c76] at hk
      by_cases c77 : o.1 = 77
      · rw [if_pos c77] at hk
        split at hk
        · rename_i a r
          split at hk
          · rename_i c9 hc9
            simp only [Bool.and_eq_true, decide_eq_true_eq] at hk
            obtain ⟨⟨k1, k2, k3, k4⟩, k5⟩ := hk
            obtain ⟨t, ci, len, rr, fs⟩ := c9
            have k3 : ci = 0 := k3
            subst k3
            exact zi_len hat hi vi c77 k1 hc9 k2 fun hI => IH i (pc + 1) lc _ h nc ns k k5 p ev s m args below meth c Q n0 ad0 e ad ws H locs ls oc os Mc Ms hat hsc hF2 hnm hI hz0 hn0 h43 hoc hos hnc hns kk
          · cases hk
        · cases hk
      rw [if_neg c77] at hk
      by_cases c78 : o.1 = 78 ∨ o.1 = 50
      · rw [if_pos c78] at hk
        split at hk
        · rename_i q hq
          simp only [Bool.and_eq_true, decide_eq_true_eq] at hk
          obtain ⟨⟨⟨⟨⟨⟨k1, k2⟩, k3⟩, k4⟩, k5⟩, k6⟩, k7⟩ := hk
          have hok := k1
          unfold zcok2 at hok
          simp only [Bool.and_eq_true, decide_eq_true_eq] at hok
          obtain ⟨⟨⟨⟨⟨g0, -⟩, -⟩, -⟩, g4⟩, g5⟩ := hok
          have hin := zargI_in hq
          have hM := zmi_of (l := l) (D := D) (cy := cy) (A := A) (sa := sa) (G := G) (rul := rul) (rc := rc) (alc := alc) (n := n) (j := o.2.2.1) (as := q.1) (h := h) (kh := fun h' => zini G rc alc n i (pc + 3) lc q.2 h' (nc + G.2.2.1 o.2.2.1) (ns + G.2.2.2.1 o.2.2.1) k) (e := e) (ad := ad) (ws := ws) HV g5 k5.1 k5.2 k6 IH k7 (fun a ha => of_decide_eq_true (List.all_eq_true.mp g0 a ha)) g4 (fun a ha => hi.2.2.1 a (hin.1 a ha)) hi.2.2.2.1 hi.2.2.2.2.1 hi.2.2.2.2.2.2.1 h43
          refine zi_call hat hF2 hi v2 vi c78 hq k1 k5.1 k5.2 k4 hM (by omega) (by omega) fun e' ad' h' ws' H' locs' hkh hz hn h43' hI => ?_
          rw [Nat.add_assoc oc nc, Nat.add_assoc os ns]
          exact IH i (pc + 3) lc q.2 h' _ _ k hkh p ev s m args below meth c Q n0 ad0 e' ad' ws' H' locs' ls oc os Mc Ms hat (fun q => zSc_ad hz (hsc q)) hF2 hnm hI (zaa_tr hz0 hz hn0) (by omega) h43' hoc hos k2 k3 kk
        · cases hk
      rw [if_neg c78] at hk
      split at hk
      · rename_i t hs
        simp only [Bool.and_eq_true, decide_eq_true_eq] at hk
        obtain ⟨⟨k1, k2⟩, k3⟩ := hk
        refine zsucc_ok (R := zrM G i Mc Ms) hrl hsc hat.1 hat.2.1 hat.2.2.1 hat.2.2.2.1 hat.2.2.2.2.1 hcl hat.2.2.2.2.2.1 v1 hs hi fun t9 ht e' ws' H' locs' ls' ag len hi' => ?_
        have ht : t9 = t := List.mem_singleton.mp ht
        subst ht
        have k1 : t9.2.2.2.2 = ([], [], []) := Prod.ext (List.length_eq_zero_iff.mp k1.1) (Prod.ext (List.length_eq_zero_iff.mp k1.2.1) (List.length_eq_zero_iff.mp k1.2.2))
        rw [k1] at hi'
        exact IH i _ _ _ _ nc ns k k3 p ev s m args below meth c Q n0 ad0 e' ad ws' H' locs' ls' oc os Mc Ms hat hsc hF2 hnm hi' hz0 (by rw [k2]; exact hn0) (by rw [k2]; exact h43) hoc hos hnc hns kk
      · cases hk
end ZI
