/-! ===== a step is right ===== -/
theorem zwords_ok (e : Nat → Int) (ad : Nat → Nat) (st : List zA) : ((zst e ad st).map fun v => v.category).sum = zwords st := by
  induction st with
  | nil => rfl
  | cons a r ih =>
    show (zval e ad a).category + ((zst e ad r).map fun v => v.category).sum = (if a.1 = 1 then 2 else 1) + zwords r
    rw [ih]
    by_cases h : a.1 = 1
    · rw [if_pos h, zval_1 h]
      rfl
    · rw [if_neg h, zval_c1 e ad h]
section ZO
variable {rul : Nat → List zI} {D : va_G} {cy : Nat → ClassId} {ad : Nat → Nat} {A : Nat → Prop} {e : Nat → Int} {lc : zL} {st : List zA} {h : List zC} {S : zS} {ws : va_W} {H : Heap} {locs : List Loc} {ls : Array Slot}
variable {p : Program} {l : Launch} {ev : Env} {R : Room} {s : State} {m : MethodId} {args : Array Value} {below : List Frame} {meth : Method} {c : Code} {cells slots : Nat} {Q : State → Prop} {pc i : Nat} {o : zO} {L : List zT}
set_option maxHeartbeats 4000000 in
theorem zsucc_ok {rc : Nat → List zI} (hrl : ∀ r, r < 100 → rc r = rul r) (hsc : i = 119 → zSc rul ad A s) (hx : p.tables.exec = Jvm.exec) (hb : c.code = zcode i) (hml : c.maxLocals = zmaxL i) (hown : s.vm.findClass (zy i).cls = some m.cls) (hts : ∀ w ∈ zTg, w.before args s = true) (hcl : zCl) (hK : va_K D vwCl (ztys cy) s)
    (hg : zgd i pc o = true) (hs : zsucc rc R.frames R.locals i pc o lc st h S = some L) (hi : zInv rul D cy ad A (zmaxL i) s.heap e lc st h S ws H locs ls)
    (kk : ∀ t ∈ L, zNx rul D cy ad A (zmaxL i) p l ev R s m args below meth c cells slots Q S.1.length e t.1 t.2.1 t.2.2.1 t.2.2.2.1 t.2.2.2.2) : W p l ev R s m args below meth c H locs cells slots Q (F0 m pc ls (zst e ad st)) := by
  unfold zsucc at hs
  unfold zgd at hg
  split at hs
  · rename_i hk
    simp only [hk] at hg
    obtain ⟨a, h1, h2, rfl⟩ := zs_ld_ok hs
    split at hg
    · rename_i h4
      exact zk_iload hx hb hi h1 h2 ⟨_, rfl, of_decide_eq_true hg⟩ (kk _ (List.mem_singleton.mpr rfl))
    · cases hg
  · rename_i hk
    simp only [hk] at hg
    obtain ⟨a, h1, h2, rfl⟩ := zs_ld_ok hs
    exact zk_iload2 hx hb hi h1 h2 (of_decide_eq_true hg) (kk _ (List.mem_singleton.mpr rfl))
  · rename_i hk
    simp only [hk] at hg
    obtain ⟨a, h1, h2, rfl⟩ := zs_ld_ok hs
    split at hg
    · exact zk_aload hx hb hi h1 h2 ⟨_, rfl, of_decide_eq_true hg⟩ (kk _ (List.mem_singleton.mpr rfl))
    · cases hg
  · rename_i hk
    simp only [hk] at hg
    obtain ⟨a, h1, h2, rfl⟩ := zs_ld_ok hs
    exact zk_aload2 hx hb hi h1 h2 (of_decide_eq_true hg) (kk _ (List.mem_singleton.mpr rfl))
  · rename_i hk
    simp only [hk] at hg
    obtain ⟨a, r, rfl, h2, rfl⟩ := zs_sto_ok hs
    split at hg
    · simp only [Bool.and_eq_true, decide_eq_true_eq] at hg
      exact zk_istore hx hb hi hg.2 h2 ⟨_, rfl, hg.1⟩ (kk _ (List.mem_singleton.mpr rfl))
    · cases hg
  · rename_i hk
    simp only [hk, Bool.and_eq_true, decide_eq_true_eq] at hg
    obtain ⟨a, r, rfl, h2, rfl⟩ := zs_sto_ok hs
    exact zk_istore2 hx hb hi hg.2 h2 hg.1 (kk _ (List.mem_singleton.mpr rfl))
  · rename_i hk
    simp only [hk] at hg
    obtain ⟨a, r, rfl, h2, rfl⟩ := zs_sto_ok hs
    split at hg
    · simp only [Bool.and_eq_true, decide_eq_true_eq] at hg
      exact zk_astore hx hb hi hg.2 h2 ⟨_, rfl, hg.1⟩ (kk _ (List.mem_singleton.mpr rfl))
    · cases hg
  · rename_i hk
    simp only [hk, Bool.and_eq_true, decide_eq_true_eq] at hg
    obtain ⟨a, r, rfl, h2, rfl⟩ := zs_sto_ok hs
    exact zk_astore2 hx hb hi hg.2 h2 hg.1 (kk _ (List.mem_singleton.mpr rfl))
  · rename_i hk
    simp only [hk, decide_eq_true_eq] at hg
    cases hs
    exact zk_iconst hx hb hi hg (kk _ (List.mem_singleton.mpr rfl))
  · rename_i hk
    simp only [hk, Bool.and_eq_true, decide_eq_true_eq] at hg
    cases hs
    exact zk_bipush hx hb hi hg.1 hg.2 (kk _ (List.mem_singleton.mpr rfl))
  · rename_i hk
    simp only [hk, Bool.and_eq_true, decide_eq_true_eq] at hg
    cases hs
    exact zk_sipush hx hb hi hg.1 hg.2 (kk _ (List.mem_singleton.mpr rfl))
  · rename_i hk
    simp only [hk, decide_eq_true_eq] at hg
    obtain ⟨a, b, r, rfl, h1, h2, rfl⟩ := zs_ar_ok hs
    exact zk_iadd hx hb hi h1 h2 hg (kk _ (List.mem_singleton.mpr rfl))
  · rename_i hk
    simp only [hk, decide_eq_true_eq] at hg
    obtain ⟨a, b, r, rfl, h1, h2, rfl⟩ := zs_ar_ok hs
    exact zk_isub hx hb hi h1 h2 hg (kk _ (List.mem_singleton.mpr rfl))
  · rename_i hk
    simp only [hk, decide_eq_true_eq] at hg
    obtain ⟨a, b, r, rfl, h1, h2, rfl⟩ := zs_ar_ok hs
    exact zk_imul hx hb hi h1 h2 hg (kk _ (List.mem_singleton.mpr rfl))
  · rename_i hk
    simp only [hk, decide_eq_true_eq] at hg
    obtain ⟨a, n, r, rfl, h1, h2, h3, h4, h5, h6⟩ := zs_rem_ok hs
    exact zk_irem2 hx hb hi h1 h2 h3 h4 hg (fun L' hr => kk _ (h5 L' hr)) (fun L' hr => kk _ (h6 L' hr))
  · rename_i hk
    simp only [hk, Bool.and_eq_true, decide_eq_true_eq] at hg
    obtain ⟨a, h1, h2, rfl⟩ := zs_inc_ok hs
    exact zk_iinc hx hb hi h1 h2 hg.2 hg.1 (kk _ (List.mem_singleton.mpr rfl))
  · rename_i hk
    simp only [hk, Bool.and_eq_true, decide_eq_true_eq] at hg
    cases hs
    exact zk_goto hx hb hi hg.2 hg.1 (kk _ (List.mem_singleton.mpr rfl))
  · rename_i hk
    simp only [hk, Bool.and_eq_true, decide_eq_true_eq] at hg
    obtain ⟨a, r, rfl, h1, h2, rfl⟩ := zs_if_ok hs
    exact zk_if _ hx hb hi h1 h2 hg.1 hg.2 (fun L' hr => kk _ (List.mem_append_left _ (zbr_mem hr))) (fun L' hr => kk _ (List.mem_append_right _ (zbr_mem hr)))
  · rename_i hk
    simp only [hk, Bool.and_eq_true, decide_eq_true_eq] at hg
    obtain ⟨a, b, r, rfl, h1, h2, h3, h4, rfl⟩ := zs_icmp_ok hs
    exact zk_icmp _ hx hb hi h1 h2 h3 h4 hg.1 hg.2 (fun L' hr => kk _ (List.mem_append_left _ (zbr_mem hr))) (fun L' hr => kk _ (List.mem_append_right _ (zbr_mem hr)))
  · rename_i hk
    simp only [hk] at hg
    obtain ⟨a, r, n, rr, fs, b, rfl, h1, h2, h3, rfl⟩ := zs_get_ok hs
    cases hr : vwCl[o.2.2.1]? with
    | none => rw [hr] at hg; cases hg
    | some q =>
      rw [hr] at hg
      simp only [Bool.and_eq_true, decide_eq_true_eq] at hg
      exact zk_get hx hb hts hcl hown hK hi h1 h2 hr hg.1.2 h3 (zwd_in hg.2) hg.1.1 (kk _ (List.mem_singleton.mpr rfl))
  · rename_i hk
    simp only [hk] at hg
    cases hr : vwCl[o.2.2.1]? with
    | none => rw [hr] at hg; cases hg
    | some q =>
      rw [hr] at hg hs
      simp only [Bool.and_eq_true, Bool.or_eq_true, decide_eq_true_eq] at hg
      obtain ⟨a, b, r, n, rr, fs, rfl, h1, h2, h3, h4, h5, rfl⟩ := zs_put_ok hs
      rcases hg.2 with h6 | h6
      · exact zk_put hx hb hts hcl hown hK hi h1 h2 h3 hr hg.1.1.1.2 h4 (zwd_in hg.1.1.2) hg.1.2 h6 (Or.inl rfl) hg.1.1.1.1 (kk _ (List.mem_singleton.mpr rfl))
      · refine zk_put hx hb hts hcl hown hK hi h1 h2 h3 hr hg.1.1.1.2 h4 (zwd_in hg.1.1.2) hg.1.2 h6 (Or.inr ⟨rfl, ?_⟩) hg.1.1.1.1 (kk _ (List.mem_singleton.mpr rfl))
        rcases h5 with h5 | h5
        · rw [decide_eq_false_iff_not] at h5
          exact absurd h6 h5
        · exact h5
  · rename_i hk
    simp only [hk, decide_eq_true_eq] at hg
    obtain ⟨a, b, r, rfl, h1, h2, h5⟩ := zs_iald_ok hs
    rcases h5 with ⟨rfl, h6⟩ | ⟨n, rr, fs, hrr, h3, h4, h5⟩
    · obtain ⟨g1, g2, g3, g4⟩ := zs_scr_ok h6
      exact zk_scr hx hb (hsc g1) hi g2 hg (fun v hv => kk _ (by rw [g3 v hv]; exact List.mem_singleton.mpr rfl)) (fun hv => kk _ (by rw [g4 hv]; exact List.mem_singleton.mpr rfl))
    · rw [hrl rr hrr] at h5
      rcases h5 with ⟨h5, rfl⟩ | ⟨h5, h6, h7⟩
      · exact zk_ialdR hx hb hK hi h1 h2 h5 h3 h4 hg (kk _ (List.mem_singleton.mpr rfl))
      · exact zk_ialdE hx hb hK hi h1 h2 h5 h3 h4 h6 hg (fun j L' d hj hr hd => kk _ (h7 j L' d hj hr hd))
  · rename_i hk
    simp only [hk, decide_eq_true_eq] at hg
    obtain ⟨a, b, d, r, n, rr, fs, rfl, h1, h2, h2d, hrr, h3, h4, h5⟩ := zs_iast_ok hs
    rw [hrl rr hrr] at h5
    rcases h5 with ⟨h5, h6, fs', h7, rfl⟩ | ⟨h5, h6⟩
    · exact zk_iastR hx hb hK hi h1 h2 h2d h5 h3 h4 h6 h7 hg (kk _ (List.mem_singleton.mpr rfl))
    · exact zk_iastE hx hb hK hi h1 h2 h2d h5 h3 h4 hg (fun j L' hj hr => kk _ (h6 j L' hj hr))
  · rename_i hk
    simp only [hk, decide_eq_true_eq] at hg
    obtain ⟨a, b, r, n, rr, t, fs, rfl, h1, h2, h3, h4, h5, h6, h7, h8⟩ := zs_aald_ok hs
    rcases h5 with rfl | rfl
    · exact zk_aald hx hb hK hi h1 h2 h6 rfl rfl h3 h4 h7 hg (fun j L' d hj hr hd => kk _ (h8 j L' d hj hr hd))
    · exact zk_aald hx hb hK hi h1 h2 h6 rfl rfl h3 h4 h7 hg (fun j L' d hj hr hd => kk _ (h8 j L' d hj hr hd))
  · rename_i hk
    simp only [hk, decide_eq_true_eq] at hg
    obtain ⟨a, b, d, r, n, rr, j, fs, rfl, h1, h2, h2d, h3, h4, h5, h6, rfl⟩ := zs_last_ok hs
    exact zk_last hx hb hK hi h1 h2 h2d h6 h3 h4 h5 hg (kk _ (List.mem_singleton.mpr rfl))
  · rename_i hk
    simp only [hk, decide_eq_true_eq] at hg
    obtain ⟨a, r, st', rfl, h1, rfl⟩ := zs_1_ok hs
    split at h1
    · rename_i h2
      cases h1
      exact zk_i2l hx hb hi h2.1 h2.2 hg (kk _ (List.mem_singleton.mpr rfl))
    · cases h1
  · rename_i hk
    simp only [hk] at hg
    cases hs
    split at hg
    · exact zk_lconst hx hb hi (of_decide_eq_true hg) (kk _ (List.mem_singleton.mpr rfl))
    · cases hg
  · rename_i hk
    simp only [hk, decide_eq_true_eq] at hg
    obtain ⟨a, r, st', rfl, h1, rfl⟩ := zs_1_ok hs
    split at h1
    · cases h1
    · rename_i h2
      cases h1
      exact zk_dup hx hb hi h2 hg (kk _ (List.mem_singleton.mpr rfl))
  · rename_i hk
    simp only [hk, decide_eq_true_eq] at hg
    obtain ⟨b, r, st', rfl, h1, rfl⟩ := zs_1_ok hs
    cases r with
    | nil => cases h1
    | cons a r2 =>
      simp only at h1
      split at h1
      · cases h1
      · rename_i h2
        cases h1
        exact zk_dup2 hx hb hi (fun q => h2 (Or.inl q)) (fun q => h2 (Or.inr q)) hg (kk _ (List.mem_singleton.mpr rfl))
  · rename_i hk
    simp only [hk, decide_eq_true_eq] at hg
    obtain ⟨a, r, st', rfl, h1, rfl⟩ := zs_1_ok hs
    split at h1
    · cases h1
    · rename_i h2
      cases h1
      exact zk_pop hx hb hi h2 hg (kk _ (List.mem_singleton.mpr rfl))
  · rename_i hk
    simp only [hk, Bool.and_eq_true, decide_eq_true_eq] at hg
    obtain ⟨a, r, rfl, h1, h2, h3, h4, h5⟩ := zs_tab_ok hs
    refine zk_tab (tgt := o.2.2.1) hx hb o.2.2.2.2.2 hi h1 h2 hg.1 rfl (show (pc : Int) + ((o.2.2.1 : Int) - (pc : Int)) = (o.2.2.1 : Int) by omega) (fun j hj => ?_) (fun L' hr => kk _ (h3 L' hr)) (fun L' hr => kk _ (h4 L' hr)) (fun j t L' hj ht hr => kk _ (h5 j t L' hj ht hr))
    have hj2 : j < o.2.2.2.2.2.length := by rw [hg.2]; exact hj
    refine ⟨(o.2.2.2.2.2[j] : Int) - (pc : Int), o.2.2.2.2.2[j], ?_, List.getElem?_eq_getElem hj2, by omega⟩
    rw [List.getElem?_toArray, List.getElem?_map, List.getElem?_eq_getElem hj2]
    rfl
  · rename_i hk
    simp only [hk, Bool.and_eq_true, decide_eq_true_eq] at hg
    obtain ⟨n, dp, qd, sp, qs, r, ld, lr, rr, fd, fs, rfl, ⟨h1, h2, h3, h4, h5, h6, h7, h8, h9⟩, g1, g2, n1, n2, g3, g4, g5, g6, rfl⟩ := zs_cpy_ok hs
    exact zk_copy hx hb hml hts hown hK (zwd_in hg.1.1.1.2) (zwd_in hg.1.1.2) (zwd_in hg.1.2) (zwd_in hg.2) hi h1 h2 h3 h4 h5 g1 g2 n1 n2 h8 h9 g5 g6 g4 g3 h6 (by rw [zwords_ok]; exact h7) hg.1.1.1.1 (kk _ (List.mem_singleton.mpr rfl))
  · rename_i hk
    simp only [hk, decide_eq_true_eq] at hg
    obtain ⟨a, b, d, r, n, rr, j, fs, rfl, h1, h2, h2d, h3, h4, h5, h6, h7, rfl⟩ := zs_lald_ok hs
    exact zk_lald hx hb hK hi h1 h2 h6 h3 h4 h5 h7 h2d hg (kk _ (List.mem_singleton.mpr rfl))
  · rename_i hk
    simp only [hk, decide_eq_true_eq] at hg
    obtain ⟨a, b, r, rfl, h1, h2, h3, rfl⟩ := zs_lcmp_ok hs
    exact zk_lcmp hx hb hi h1 h2 h3 hg (kk _ (List.mem_singleton.mpr rfl))
  · rename_i hk
    simp only [hk, decide_eq_true_eq] at hg
    obtain ⟨a, b, r, n, rr, fs, rfl, h1, h2, h3, h4, h5, rfl⟩ := zs_ialdA_ok hs
    exact zk_ialdA hx hb hK hi h1 h2 h5 h3 h4 hg (kk _ (List.mem_singleton.mpr rfl))
  · rename_i hk
    simp only [hk, Bool.and_eq_true, decide_eq_true_eq] at hg
    obtain ⟨a, r, rfl, h1, h2, rfl⟩ := zs_if3_ok hs
    exact zk_if3 hx hb hi h1 h2 hg.1 hg.2 (fun L' hr => kk _ (List.mem_append_left _ (zbr_mem hr))) (fun L' hr => kk _ (List.mem_append_right _ (List.mem_append_left _ (zbr_mem hr)))) (fun L' hr => kk _ (List.mem_append_right _ (List.mem_append_right _ (zbr_mem hr))))
  · rename_i hk
    simp only [hk, decide_eq_true_eq] at hg
    obtain ⟨a, b, r, rfl, h1, h2, h3, h4, h5, h6⟩ := zs_xor_ok hs
    exact zk_ixor hx hb hi h1 h2 h3 h4 hg (fun L' hr => kk _ (h5 L' hr)) (fun L' hr => kk _ (h6 L' hr))
  · rename_i hk
    simp only [hk, decide_eq_true_eq] at hg
    obtain ⟨r, rfl, h1, rfl⟩ := zs_alen_ok hs
    exact zk_alen hx hb (hsc h1) hi hg (kk _ (List.mem_singleton.mpr rfl))
  · rename_i hk
    simp only [hk, decide_eq_true_eq] at hg
    obtain ⟨a, r, rfl, h1, rfl⟩ := zs_and_ok hs
    exact zk_iand hx hb hi h1 hg (kk _ (List.mem_singleton.mpr rfl))
  · rename_i hk
    simp only [hk] at hg
    obtain ⟨me, sz, ds, sr, len0, rr0, fs, fd, fr, rfl, a1, a2, a3, a4, a5, a6, a7, a8, a9, b1, b2, b3, b4, b5, b6, b7, rfl⟩ := zs_loop_ok hs
    cases hr : vwCl[4]? with
    | none => rw [hr] at hg; cases hg
    | some r =>
      rw [hr] at hg
      obtain ⟨C, T, N⟩ := r
      simp only [Bool.and_eq_true, decide_eq_true_eq] at hg
      obtain ⟨⟨hd0, ⟨⟨⟨⟨⟨⟨⟨⟨⟨⟨⟨⟨d1, d3⟩, d4⟩, d7⟩, d8⟩, d11⟩, d12⟩, d16⟩, d17⟩, d21⟩, d22⟩, d23⟩, d26⟩⟩, ⟨⟨⟨⟨⟨⟨⟨w1, w2⟩, w3⟩, w4⟩, w5⟩, w6⟩, w7⟩, w8⟩⟩ := hg
      split at hd0
      · simp only [Bool.and_eq_true, decide_eq_true_eq] at hd0
        exact zk_loop hx hb hts hcl hown hK hr w1 w2 w3 (zwd_in w4) (zwd_in w5) (zwd_in w6) rfl w7 w8 hi a1 a2 a3 a4 a5 a6 a7 a8 a9 b1 b2 b3 b4 b5 b6 b7 hd0.1.1 d1 d3 d4 d7 d8 d11 d12 hd0.1.2 d16 d17 hd0.2 d21 d22 d23 d26 (kk _ (List.mem_singleton.mpr rfl))
      · cases hd0
  · cases hs
end ZO
