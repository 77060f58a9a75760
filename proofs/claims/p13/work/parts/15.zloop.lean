/-! ===== the reference's copying loop: a step of the walk ===== -/
def zmix (f g : Nat → Int32) (b : Nat) : Nat → Int32 := fun j => if j < b then g j else f j
theorem zput_put (lc : zL) (j : Nat) (a b : zA) : zput (zput lc j a) j b = zput lc j b := by
  unfold zput
  congr 1
  rw [List.filter_cons]
  simp only [beq_self_eq_true, Bool.not_true, Bool.false_and, Bool.false_eq_true, if_false]
  rw [List.filter_filter]
  simp
section ZW
variable {rul : Nat → List zI} {D : va_G} {cy : Nat → ClassId} {ad : Nat → Nat} {A : Nat → Prop} {nL : Nat} {e : Nat → Int} {lc : zL} {st : List zA} {h : List zC} {S : zS} {ws : va_W} {H : Heap} {locs : List Loc} {ls : Array Slot}
variable {p : Program} {l : Launch} {ev : Env} {R : Room} {s : State} {m : MethodId} {args : Array Value} {below : List Frame} {meth : Method} {c : Code} {cells slots : Nat} {Q : State → Prop} {cc : ByteArray} {pc : Nat} {a b : zA}
theorem zk_loop (hx : p.tables.exec = Jvm.exec) (hb : c.code = cc) {own : String} {ixz ixd ixr kz kd ks kl N len0 rr0 : Nat} {kF : Fin 4} {C : String} {T : u_T} {fs fd fr : List zA} {me sz ds sr : zA} (hts : ∀ w ∈ zTg, w.before args s = true) (hcl : zCl) (hown : s.vm.findClass own = some m.cls) (hK : va_K D vwCl (ztys cy) s)
    (hr : vwCl[4]? = some (C, T, N)) (hkz : kz < N) (hkd : kd < N) (hks : ks < N) (hlz : Cond.fieldLink own ixz (T kz).1 (T kz).2.1 (T kz).2.2.1 ∈ zTg) (hld : Cond.fieldLink own ixd (T kd).1 (T kd).2.1 (T kd).2.2.1 ∈ zTg) (hlr : Cond.fieldLink own ixr (T ks).1 (T ks).2.1 (T ks).2.2.1 ∈ zTg)
    (hkF : (kF : Nat) = kl) (hk0 : ¬ kl = 0) (hkn : kl < nL)
    (hi : zInv rul D cy ad A nL s.heap e lc [] h S ws H locs ls) (hg : zget lc kl = some (0, 0, 0, 0)) (hgm : zget lc 0 = some me) (hme : me.1 = 2) (hhm : h[me.2.2.1]? = some (0, 4, len0, rr0, fs)) (hfz : fs[kz]? = some sz) (hz0 : sz.1 = 0) (hz : zin S.1 sz 0 400 = true) (hfd : fs[kd]? = some ds) (hd2 : ds.1 = 2) (hfr : fs[ks]? = some sr) (hr2 : sr.1 = 2) (hne : ¬ ds.2.2.1 = sr.2.2.1) (hhd : h[ds.2.2.1]? = some (2, 0, 5200, 1, fd)) (hhr : h[sr.2.2.1]? = some (2, 0, 5200, 1, fr)) (hfd3 : fd.length < 3) (hfr3 : fr.length < 3)
    (d0 : decode cc pc = .ok (.iload_n kF, 1)) (d1 : decode cc (pc + 1) = .ok (.bipush 13, 2)) (d2 : decode cc (pc + 3) = .ok (.aload_n 0, 1)) (d3 : decode cc (pc + 4) = .ok (.getfield ixz, 3)) (d4 : decode cc (pc + 7) = .ok (.imul, 1)) (d5 : decode cc (pc + 8) = .ok (.if_icmp .ge 21, 3)) (d6 : decode cc (pc + 11) = .ok (.aload_n 0, 1)) (d7 : decode cc (pc + 12) = .ok (.getfield ixd, 3)) (d8 : decode cc (pc + 15) = .ok (.iload_n kF, 1)) (d9 : decode cc (pc + 16) = .ok (.aload_n 0, 1)) (d10 : decode cc (pc + 17) = .ok (.getfield ixr, 3)) (d11 : decode cc (pc + 20) = .ok (.iload_n kF, 1)) (d12 : decode cc (pc + 21) = .ok (.iaload, 1)) (d13 : decode cc (pc + 22) = .ok (.iastore, 1)) (d14 : decode cc (pc + 23) = .ok (.iinc kl 1, 3)) (d15 : decode cc (pc + 26) = .ok (.goto (-26), 3))
    (kk : zNx rul D cy ad A nL p l ev R s m args below meth c cells slots Q S.1.length e (pc + 29) (zput lc kl (zvar S)) [] (h.set ds.2.2.1 (2, 0, 5200, 1, [])) (zpush S (0, 5200))) : W p l ev R s m args below meth c H locs cells slots Q (F0 m pc ls (zst e ad [])) := by
  obtain ⟨Em, m1, m2⟩ := hi.2.2.2.2.1.2 _ _ hhm
  have m2 : Em = .inr (4, zst e ad fs) := m2
  subst m2
  obtain ⟨Ed, q1, f, q2, q3, q4⟩ := hi.2.2.2.2.1.2 _ _ hhd
  subst q2
  obtain ⟨Er, r1, g, r2, r3, r4⟩ := hi.2.2.2.2.1.2 _ _ hhr
  subst r2
  have q3 : ∀ j : Nat, j < 5200 → zok (rul 1) j (f j).toInt := q3
  have r3 : ∀ j : Nat, j < 5200 → zok (rul 1) j (g j).toInt := r3
  have q5 : zPw f (-1) := zX1_pw (zX_1 q4) (by show (fd.map (zv e)).length < 3; rw [List.length_map]; exact hfd3)
  have r5 : zPw g (-1) := zX1_pw (zX_1 r4) (by show (fr.map (zv e)).length < 3; rw [List.length_map]; exact hfr3)
  have hnm : ¬ ds.2.2.1 = me.2.2.1 := fun q => by rw [q, hhm] at hhd; cases hhd
  obtain ⟨z1, z2⟩ := zin_ok hi.1.1 hz
  obtain ⟨n, hn⟩ : ∃ n : Nat, (n : Int) = zv e sz := ⟨(zv e sz).toNat, Int.toNat_of_nonneg z1⟩
  have hvz : (zst e ad fs)[kz]? = some (.int (Int32.ofInt (n : Int))) := by unfold zst; rw [List.getElem?_map, hfz]; show some (zval e ad sz) = _; rw [zval_0 hz0, hn]
  have hvd : (zst e ad fs)[kd]? = some (.ref (ad ds.2.2.1)) := by unfold zst; rw [List.getElem?_map, hfd]; show some (zval e ad ds) = _; rw [zval_2 hd2]
  have hvr : (zst e ad fs)[ks]? = some (.ref (ad sr.2.2.1)) := by unfold zst; rw [List.getElem?_map, hfr]; show some (zval e ad sr) = _; rw [zval_2 hr2]
  have hin4 := (hcl 4 _ hr).1
  have hlt9 : ∀ z : Int, 0 ≤ z → z ≤ 5200 → -2147483648 ≤ z ∧ z ≤ 2147483647 := fun z _ _ => ⟨by omega, by omega⟩
  have key : ∀ (t b : Nat) (ws' : va_W) (H' : Heap) (locs' : List Loc) (ls' : Array Slot), b + t = 13 * n → ws' = ws.set ds.2.2.1 (ad ds.2.2.1, .inl (cy 0, 5200, .inl (zmix f g b))) → va_P D vwCl ws' H' → va_D A ws' → va_S A s.heap H' locs' → lv_has ls' nL (zlv e ad (zput lc kl (0, 0, 0, (b : Int)))) → W p l ev R s m args below meth c H' locs' cells slots Q (F0 m pc ls' []) := by
    intro t
    induction t with
    | zero =>
      intro b ws' H' locs' ls' hbt hws hP hD hS hl
      have hv : ls'[kl]? = some (.val (.int (Int32.ofInt (b : Int)))) := by
        have := hl.2.2 (kl, zval e ad (0, 0, 0, (b : Int))) List.mem_cons_self
        rw [zval_0 rfl, zv_c] at this
        exact this
      have hmm : (0, me) ∈ zput lc kl (0, 0, 0, (b : Int)) := List.mem_cons_of_mem _ (List.mem_filter.mpr ⟨zget_mem hgm, by simp [hme]; exact fun q => hk0 q.symm⟩)
      have hv0 : ls'[0]? = some (.val (.ref (ad me.2.2.1))) := by
        have := hl.2.2 (0, zval e ad me) (List.mem_map.mpr ⟨_, hmm, rfl⟩)
        rw [zval_2 hme] at this
        exact this
      have w1 : ws'[me.2.2.1]? = some (ad me.2.2.1, .inr (4, zst e ad fs)) := by rw [hws, List.getElem?_set_ne hnm]; exact m1
      refine lv_iload_n hx hb d0 hkF hv ?_
      refine lv_bipush (v := Int32.ofInt 13) hx hb d1 (by decide) ?_
      refine lv_aload_n hx hb d2 rfl hv0 ?_
      refine va_get (D := D) hx hb hts hin4 hown hK hP _ w1 hr kz hkz (hts _ hlz) (fun _ q => q) hvz d3 ?_
      refine lv_imul hx hb d4 ?_
      rw [← Int32.ofInt_mul]
      refine lv_icmp_ge (tgt := pc + 29) hx hb d5 (by omega) (fun _ => ?_) (fun hc => absurd ((zc_le (hlt9 _ (by omega) (by omega)) (hlt9 _ (by omega) (by omega))).mpr (by omega)) hc)
      have ag := zag_ext e S.1.length (b : Int)
      have hln : S.1.length ≤ (zpush S (0, 5200)).1.length := by rw [zpush_len]; omega
      have hj2 := zInv_ext hi ag (zSat_push (i := (0, 5200)) (x := (b : Int)) hi.1 ⟨by show (0 : Int) ≤ _; omega, by show (b : Int) ≤ 5200; omega⟩) hln
      have hl2 : zlv (zext e S.1.length (b : Int)) ad (zput lc kl (zvar S)) = zlv e ad (zput lc kl (0, 0, 0, (b : Int))) := by
        rw [← zlv_put, ← zlv_put, zlv_ag ag hi.2.1, zval_0 (a := zvar S) rfl, zvar_v, zval_0 (a := (0, 0, 0, (b : Int))) rfl, zv_c]
      have hHR : zHR rul cy (zext e S.1.length (b : Int)) ad (h.set ds.2.2.1 (2, 0, 5200, 1, [])) ws' := by
        rw [hws]
        refine zHR_set hj2.2.2.2.2.1 (show zCR rul cy _ ad (2, 0, 5200, 1, []) _ from ⟨zmix f g b, rfl, fun j hj => ?_, zX_1i (show zPw (zmix f g b) (-1) from fun r k hk hr9 => ?_)⟩)
        · show zok (rul 1) j (zmix f g b j).toInt
          unfold zmix
          by_cases hjb : j < b
          · rw [if_pos hjb]; exact r3 j hj
          · rw [if_neg hjb]; exact q3 j hj
        · unfold zmix
          by_cases hrn : r < n
          · rw [if_pos (by omega), if_pos (by omega)]
            exact r5 r k hk hr9
          · rw [if_neg (by omega), if_neg (by omega)]
            exact q5 r k hk hr9
      exact kk _ ws' H' locs' ls' ag hln ⟨hj2.1, zput_wf hj2.2.1 (zvar_wf S _), fun x hx9 => (nomatch hx9), zwf_set hj2.2.2.2.1 (fun x hx9 => (nomatch hx9)), hHR, hP, hD, hS, by rw [hl2]; exact hl⟩
    | succ t ih =>
      intro b ws' H' locs' ls' hbt hws hP hD hS hl
      have hv : ls'[kl]? = some (.val (.int (Int32.ofInt (b : Int)))) := by
        have := hl.2.2 (kl, zval e ad (0, 0, 0, (b : Int))) List.mem_cons_self
        rw [zval_0 rfl, zv_c] at this
        exact this
      have hmm : (0, me) ∈ zput lc kl (0, 0, 0, (b : Int)) := List.mem_cons_of_mem _ (List.mem_filter.mpr ⟨zget_mem hgm, by simp [hme]; exact fun q => hk0 q.symm⟩)
      have hv0 : ls'[0]? = some (.val (.ref (ad me.2.2.1))) := by
        have := hl.2.2 (0, zval e ad me) (List.mem_map.mpr ⟨_, hmm, rfl⟩)
        rw [zval_2 hme] at this
        exact this
      have w1 : ws'[me.2.2.1]? = some (ad me.2.2.1, .inr (4, zst e ad fs)) := by rw [hws, List.getElem?_set_ne hnm]; exact m1
      have w2 : ws'[sr.2.2.1]? = some (ad sr.2.2.1, .inl (cy 0, 5200, .inl g)) := by rw [hws, List.getElem?_set_ne hne]; exact r1
      have w3 : ws'[ds.2.2.1]? = some (ad ds.2.2.1, .inl (cy 0, 5200, .inl (zmix f g b))) := by rw [hws, List.getElem?_set_self (List.getElem?_eq_some_iff.mp q1).1]
      refine lv_iload_n hx hb d0 hkF hv ?_
      refine lv_bipush (v := Int32.ofInt 13) hx hb d1 (by decide) ?_
      refine lv_aload_n hx hb d2 rfl hv0 ?_
      refine va_get (D := D) hx hb hts hin4 hown hK hP _ w1 hr kz hkz (hts _ hlz) (fun _ q => q) hvz d3 ?_
      refine lv_imul hx hb d4 ?_
      rw [← Int32.ofInt_mul]
      refine lv_icmp_ge (tgt := pc + 29) hx hb d5 (by omega) (fun hc => ?_) (fun _ => ?_)
      · have := (zc_le (hlt9 _ (by omega) (by omega)) (hlt9 _ (by omega) (by omega))).mp hc
        omega
      · refine lv_aload_n hx hb d6 rfl hv0 ?_
        refine va_get (D := D) hx hb hts hin4 hown hK hP _ w1 hr kd hkd (hts _ hld) (fun _ q => q) hvd d7 ?_
        refine lv_iload_n hx hb d8 hkF hv ?_
        refine lv_aload_n hx hb d9 rfl hv0 ?_
        refine va_get (D := D) hx hb hts hin4 hown hK hP _ w1 hr ks hks (hts _ hlr) (fun _ q => q) hvr d10 ?_
        refine lv_iload_n hx hb d11 hkF hv ?_
        obtain ⟨y1, y2⟩ := zc_in (z := (b : Int)) (n := 5200) (by omega) (by omega) (by omega)
        have y2 : (Int32.ofInt (b : Int)).toNatClampNeg = b := y2
        refine va_iald (D := D) hx hb hK hP _ 0 w2 rfl y1 d12 ?_
        rw [y2]
        refine va_iast (D := D) hx hb hK hP hD hS _ 0 w3 rfl y1 d13 fun H1 locs1 hP1 hD1 hS1 => ?_
        rw [y2] at hP1 hD1
        have hup : upd (zmix f g b) b (g b) = zmix f g (b + 1) := by
          funext j
          by_cases hj : j = b
          · subst hj
            rw [pk_us]
            unfold zmix
            rw [if_pos (by omega)]
          · rw [pk_un hj]
            unfold zmix
            by_cases hjb : j < b
            · rw [if_pos hjb, if_pos (by omega)]
            · rw [if_neg hjb, if_neg (by omega)]
        rw [hup, hws, List.set_set] at hP1 hD1
        have hb1 : Int32.ofInt (b : Int) + Int32.ofInt 1 = Int32.ofInt ((b + 1 : Nat) : Int) := by rw [← Int32.ofInt_add]; rfl
        refine lv_iinc (k := 0) (x := Int32.ofInt (b : Int)) (lv' := zlv e ad (zput lc kl (0, 0, 0, ((b + 1 : Nat) : Int)))) hx hb d14 hl (by show some (kl, zval e ad (0, 0, 0, (b : Int))) = _; rw [zval_0 rfl, zv_c]) hb1 hkn ?_ fun ls2 hl2 => ?_
        · have := zlv_put e ad (zput lc kl (0, 0, 0, (b : Int))) kl (0, 0, 0, ((b + 1 : Nat) : Int))
          rw [zput_put, zval_0 rfl, zv_c] at this
          exact this
        · refine lv_goto (tgt := pc) hx hb d15 (by omega) ?_
          exact ih (b + 1) _ H1 locs1 ls2 (by omega) rfl hP1 hD1 hS1 hl2
  have h00 : zmix f g 0 = f := by
    funext j
    unfold zmix
    rw [if_neg (by omega)]
  refine key (13 * n) 0 ws H locs ls (by omega) (by rw [h00]; exact (zset_self q1).symm) hi.2.2.2.2.2.1 hi.2.2.2.2.2.2.1 hi.2.2.2.2.2.2.2.1 ⟨hi.2.2.2.2.2.2.2.2.1, hi.2.2.2.2.2.2.2.2.2.1, fun w hw => ?_⟩
  refine hi.2.2.2.2.2.2.2.2.2.2 w ?_
  obtain ⟨w2, hw2, rfl⟩ := List.mem_map.mp hw
  refine List.mem_map.mpr ⟨w2, ?_, rfl⟩
  rcases List.mem_cons.mp hw2 with h9 | h9
  · rw [h9]; exact zget_mem hg
  · exact (List.mem_filter.mp h9).1
end ZW
