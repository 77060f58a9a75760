/-! ===== a callee's pattern in the caller's numbers ===== -/
theorem vx_Run_mono {p : Program} {l : Launch} {e : Env} {R : Room} {s : State} {m : MethodId} {args : Array Value} {below : List Frame} {meth : Method} {c : Code} {H : Heap} {locs : List Loc} {cells slots mc ms : Nat} {g : JFrame} {rest : List Value} {Qa Qb : State → Outcome → State → Prop} {XC XD : String → State → State → Prop} {free : Addr → Prop}
    (h : vx_Run p l e R s m args below meth c H locs cells slots mc ms g rest Qa XC free) (h1 : ∀ st oc t, Qa st oc t → Qb st oc t) (h2 : ∀ E st t, XC E st t → XD E st t) : vx_Run p l e R s m args below meth c H locs cells slots mc ms g rest Qb XD free := by
  intro T hT X
  rcases h T hT X with ⟨v, st₀, t, T', L, a0, a1, a2, a3, a4, a5, a6⟩ | ⟨q, st₀, t, T', L, E, ce, a0, a1, a2, a3, a4, a5, a6⟩
  · exact Or.inl ⟨v, st₀, t, T', L, a0, a1, a2, a3, a4, h1 _ _ _ a5, a6⟩
  · exact Or.inr ⟨q, st₀, t, T', L, E, ce, a0, a1, a2, a3, a4, h2 _ _ _ a5, a6⟩
theorem zHR_sb {rul : Nat → List zI} {cy : Nat → ClassId} {ad : Nat → Nat} {e : Nat → Int} {th : Nat → zA} {h : List zC} {ws : va_W} {n : Nat} (hp : h.all (fun c => c.2.2.2.2.all (zpl n)) = true) (hq : h.all (fun c => decide (¬ c.1 = 3) || c.2.2.2.2.all (fun a => decide (a.2.1 = 0))) = true) (hr : zHR rul cy (zec th e) ad h ws) : zHR rul cy e ad (h.map (zsbC th)) ws := by
  refine ⟨by rw [List.length_map]; exact hr.1, fun i c hc => ?_⟩
  rw [List.getElem?_map] at hc
  cases hc2 : h[i]? with
  | none => rw [hc2] at hc; cases hc
  | some d =>
    rw [hc2] at hc
    have hc : zsbC th d = c := Option.some.inj hc
    subst hc
    obtain ⟨E, q1, q2⟩ := hr.2 i d hc2
    refine ⟨E, q1, ?_⟩
    have hm := List.mem_of_getElem? hc2
    have hpl : ∀ a ∈ d.2.2.2.2, zpl n a = true := List.all_eq_true.mp (List.all_eq_true.mp hp d hm)
    have h12 := List.all_eq_true.mp hq d hm
    obtain ⟨t, ci, len, rr, fs⟩ := d
    have hpl : ∀ a ∈ fs, zpl n a = true := hpl
    have hget : ∀ (j : Nat) (b : zA), (fs.map (zsb th))[j]? = some b → ∃ a, fs[j]? = some a ∧ b = zsb th a := fun j b hb => by
      rw [List.getElem?_map] at hb
      cases ha : fs[j]? with
      | none => rw [ha] at hb; cases hb
      | some a => rw [ha] at hb; exact ⟨a, rfl, (Option.some.inj hb).symm⟩
    match t, q2, h12 with
    | 0, q2, _ =>
      have q2 : E = .inr (ci, zst (zec th e) ad fs) := q2
      show E = .inr (ci, zst e ad (fs.map (zsb th)))
      rw [q2]
      congr 2
      unfold zst
      rw [List.map_map]
      exact List.map_congr_left fun a ha => (zsb_val th e ad (zpl_t (hpl a ha))).symm
    | 1, ⟨f, q3, q4, q5⟩, _ => exact ⟨f, q3, by show (fs.map (zsb th)).length = len; rw [List.length_map]; exact q4, fun j b hb => by
        obtain ⟨a, ha, rfl⟩ := hget j b hb
        rw [q5 j a ha, zsb_v]⟩
    | 2, ⟨f, q3, q4, q5⟩, _ => exact ⟨f, q3, q4, by show zX rr f ((fs.map (zsb th)).map (zv e)); rw [zmap_sb]; exact q5⟩
    | 5, ⟨n, f, q3, q4, q5⟩, _ => exact ⟨n, f, q3, q4, by show zY n f ((fs.map (zsb th)).map (zv e)); rw [zmap_sb]; exact q5⟩
    | 3, ⟨f, q3, q4, q5⟩, h12 => exact ⟨f, q3, by show (fs.map (zsb th)).length = len; rw [List.length_map]; exact q4, fun j b hb => by
        obtain ⟨a, ha, rfl⟩ := hget j b hb
        rw [q5 j a ha]
        simp only [not_true, decide_false, Bool.false_or] at h12
        have h13 := of_decide_eq_true (List.all_eq_true.mp h12 a (List.mem_of_getElem? ha))
        rw [show zsb th a = a from by unfold zsb; rw [if_pos h13]]⟩
    | 4, ⟨f, q3, q4, q5⟩, _ => exact ⟨f, q3, by show (fs.map (zsb th)).length = len; rw [List.length_map]; exact q4, fun j b hb => by
        obtain ⟨a, ha, rfl⟩ := hget j b hb
        rw [q5 j a ha, zsb_v]⟩
    | t + 6, ⟨f, q3, q4, q5⟩, _ => exact ⟨f, q3, by show (fs.map (zsb th)).length = len; rw [List.length_map]; exact q4, fun j b hb => by
        obtain ⟨a, ha, rfl⟩ := hget j b hb
        rw [q5 j a ha, zsb_v]⟩
/-- the caller's picture behind a call by its pattern -/
def zr0 (rt : Option zA) (th : Nat → zA) : zOut := match rt with
  | some a => (0, zsb th a)
  | none => (1, (0, 0, 0, 0))
noncomputable def zk2 (r0 : zOut) (xs : List Nat) (h0 : List zC) (S0 : zS) : zK := fun r h S => @decide ((r = r0 ∨ ∃ x ∈ xs, r = (2, (x, 0, 0, 0))) ∧ h = h0 ∧ S = S0) (Classical.propDecidable _)
theorem zcv {rul : Nat → List zI} {D : va_G} {cy : Nat → ClassId} {ad : Nat → Nat} {A : Nat → Prop} {e e1 : Nat → Int} {S S1 : zS} {T stT st : List zA} {I0 I1 : List zI} {h1 h1T : List zC} {ws1 : va_W} {t : State} (hs : zSat rul e S) (hl : I0.length ≤ I1.length) (hT : ∀ v, v < I0.length → zwf S.1.length (ztf T v))
    (hE : zEnd rul D cy ad A I0.length (zec (ztf T) e) e1 h1 S1 ws1 t) (hrl : ∀ a ∈ st, zwf S1.1.length a) (k3 : zmt (ztf (zthk I0.length I1 (zprs [] [] stT st h1T h1))) S1 [] st h1 [] stT h1T I1 = true) :
    ∃ e3 : Nat → Int, zEnd rul D cy ad A S.1.length e e3 (h1T.map (zsbC (zsg S.1.length I0.length T))) (S.1 ++ I1.drop I0.length, S.2.1, S.2.2) ws1 t ∧ zst e3 ad (stT.map (zsb (zsg S.1.length I0.length T))) = zst e1 ad st ∧ (∀ a ∈ stT, zwf (S.1 ++ I1.drop I0.length).length (zsb (zsg S.1.length I0.length T) a)) ∧ stT.map (fun a => a.1) = st.map (fun a => a.1) := by
  obtain ⟨g1, g2, g3, g4, g5, g6, g7⟩ := hE
  have hmt0 := k3
  unfold zmt at hmt0
  simp only [Bool.and_eq_true, decide_eq_true_eq] at hmt0
  obtain ⟨⟨⟨⟨⟨⟨⟨-, m2⟩, -⟩, -⟩, m5⟩, -⟩, m7⟩, m8⟩ := hmt0
  obtain ⟨hI, hv⟩ := zmt_ok (D := D) (A := A) (nL := 0) (H0 := t.heap) (H := t.heap) (locs := []) (ls := #[]) (ws := ws1) (cy := cy) (ad := ad) k3 ⟨g3, fun q hq => (nomatch hq), hrl, g4, g5, g7, g6, va_S.rf, ⟨rfl, ⟨fun i v h => by simp at h, fun i h => by simp at h⟩, fun q hq => (nomatch hq)⟩⟩
  obtain ⟨e2, he2⟩ : ∃ z, z = zec (ztf (zthk I0.length I1 (zprs [] [] stT st h1T h1))) e1 := ⟨_, rfl⟩
  rw [← he2] at hI hv
  have hag : zag I0.length (zec (ztf T) e) e2 := by rw [he2]; exact zec_id hl g1
  obtain ⟨n, hn⟩ : ∃ n, n = S.1.length := ⟨_, rfl⟩
  rw [← hn] at hT ⊢
  obtain ⟨e3, he3⟩ : ∃ z : Nat → Int, z = fun v => if v < n then e v else e2 (v - n + I0.length) := ⟨_, rfl⟩
  have hag3 : zag n e e3 := fun v hv => by rw [he3]; simp [hv]
  have hsg : zec (zsg n I0.length T) e3 = e2 := by
    funext v
    unfold zec zsg
    by_cases hvm : v < I0.length
    · rw [if_pos hvm, zv_ag hag3 (hT v hvm)]
      exact (hag v hvm).symm
    · rw [if_neg hvm]
      show (1 : Int) * e3 (n + (v - I0.length)) + 0 = e2 v
      rw [he3]
      simp only
      rw [if_neg (by omega), show n + (v - I0.length) - n + I0.length = v by omega]
      omega
  have hlen : (S.1 ++ I1.drop I0.length).length = n + (I1.length - I0.length) := by rw [List.length_append, List.length_drop, hn]
  have hwf : ∀ a : zA, zpl I1.length a = true → zwf (S.1 ++ I1.drop I0.length).length (zsb (zsg n I0.length T) a) := by
    intro a ha
    rw [hlen]
    have hw := zpl_w ha
    unfold zsb
    by_cases ha0 : a.2.1 = 0
    · rw [if_pos ha0]; exact Or.inl ha0
    · rw [if_neg ha0]
      have hlt : a.2.2.1 < I1.length := hw.resolve_left ha0
      by_cases hvm : a.2.2.1 < I0.length
      · have hz := hT _ hvm
        unfold zsg
        rw [if_pos hvm]
        rcases hz with hz | hz
        · exact Or.inl (by show a.2.1 * (ztf T a.2.2.1).2.1 = 0; rw [hz, Int.mul_zero])
        · exact Or.inr (by show (ztf T a.2.2.1).2.2.1 < _; omega)
      · unfold zsg
        rw [if_neg hvm]
        exact Or.inr (by show n + (a.2.2.1 - I0.length) < _; omega)
  have htag : ∀ (th : Nat → zA) (a : zA), (zsb th a).1 = a.1 := fun th a => by
    unfold zsb
    by_cases hq : a.2.1 = 0
    · rw [if_pos hq]
    · rw [if_neg hq]
  refine ⟨e3, ⟨hag3, ?_, ⟨?_, ?_, ?_⟩, ?_, ?_, g6, g7⟩, ?_, fun a ha => hwf a (List.all_eq_true.mp m5 a ha), ?_⟩
  · rw [hlen]; omega
  · intro v i hvi
    have hvi : (S.1 ++ I1.drop I0.length)[v]? = some i := hvi
    by_cases hvn : v < n
    · rw [List.getElem?_append_left (by rw [← hn]; exact hvn)] at hvi
      rw [hag3 v hvn]
      exact hs.1 v i hvi
    · rw [List.getElem?_append_right (by rw [← hn]; omega), List.getElem?_drop, ← hn] at hvi
      rw [he3]
      simp only
      rw [if_neg hvn]
      exact hI.1.1 _ i (by show I1[v - n + I0.length]? = some i; rw [show v - n + I0.length = I0.length + (v - n) by omega]; exact hvi)
  · intro q hq
    obtain ⟨a1, a2, a3⟩ := hs.2.1 q hq
    rw [← hn] at a1 a2
    show zwf (S.1 ++ I1.drop I0.length).length _ ∧ _
    rw [hlen, zv_ag hag3 a1, zv_ag hag3 a2]
    exact ⟨zwf_le a1 (by omega), zwf_le a2 (by omega), a3⟩
  · intro q hq
    obtain ⟨a1, a2, j, a3, a4⟩ := hs.2.2 q hq
    rw [← hn] at a1 a2
    show _ < (S.1 ++ I1.drop I0.length).length ∧ zwf (S.1 ++ I1.drop I0.length).length _ ∧ _
    rw [hlen, zv_ag hag3 a2, hag3 _ a1]
    exact ⟨by omega, zwf_le a2 (by omega), j, a3, a4⟩
  · intro c hc a ha
    obtain ⟨d, hd, rfl⟩ := List.mem_map.mp hc
    obtain ⟨b, hb, rfl⟩ := List.mem_map.mp ha
    exact hwf b (List.all_eq_true.mp (List.all_eq_true.mp m7 d hd) b hb)
  · exact zHR_sb m7 m8 (by rw [hsg]; exact hI.2.2.2.2.1)
  · rw [← hv]
    unfold zst
    rw [List.map_map]
    exact List.map_congr_left fun a ha => by
      have := zsb_val (zsg n I0.length T) e3 ad (zpl_t (List.all_eq_true.mp m5 a ha))
      rw [hsg] at this
      exact this
  · rw [← m2, List.map_map]
    exact List.map_congr_left fun a _ => (htag _ a).symm
theorem zconv {rul : Nat → List zI} {D : va_G} {cy : Nat → ClassId} {ad : Nat → Nat} {A : Nat → Prop} {e : Nat → Int} {S : zS} {ct : zCt} {T : List zA} {arr : Array Value} {st t : State} {oc : Outcome} (hs : zSat rul e S) (hl : ct.2.2.2.1.length ≤ ct.2.2.2.2.2.2.1.length) (hT : ∀ v, v < ct.2.2.2.1.length → zwf S.1.length (ztf T v))
    (hq : zQk rul D cy ad A (zkp ct) ct.2.2.2.1.length (zec (ztf T) e) arr st oc t) :
    zQk rul D cy ad A (zk2 (zr0 ct.2.2.2.2.1 (zsg S.1.length ct.2.2.2.1.length T)) ct.2.2.2.2.2.2.2 (ct.2.2.2.2.2.1.map (zsbC (zsg S.1.length ct.2.2.2.1.length T))) (S.1 ++ ct.2.2.2.2.2.2.1.drop ct.2.2.2.1.length, S.2.1, S.2.2)) S.1.length e arr st oc t := by
  obtain ⟨rk, aT, h0, I0, rt, h1T, I1, xs⟩ := ct
  obtain ⟨⟨e1, h1, S1, ws1, r, ho, r1, r2, hk, hE⟩, hF⟩ := hq
  unfold zkp at hk
  rw [if_neg (by omega)] at hk
  simp only [Bool.and_eq_true, decide_eq_true_eq] at hk
  obtain ⟨⟨k1, -⟩, k3⟩ := hk
  have hrl : ∀ a ∈ (if r.1 = 0 then [r.2] else []), zwf S1.1.length a := by
    intro a ha
    by_cases hr0 : r.1 = 0
    · rw [if_pos hr0] at ha
      rw [List.mem_singleton.mp ha]
      exact (r2 hr0).2
    · rw [if_neg hr0] at ha
      cases ha
  obtain ⟨e3, hE3, hst, hwf, htag⟩ := zcv hs hl hT hE hrl k3
  refine ⟨⟨e3, h1T.map (zsbC (zsg S.1.length I0.length T)), (S.1 ++ I1.drop I0.length, S.2.1, S.2.2), ws1, zr0 rt (zsg S.1.length I0.length T), ?_, ?_, ?_, ?_, hE3⟩, hF⟩
  · rw [ho]
    cases rt with
    | none =>
      have k1 : r.1 = 1 := k1
      simp [k1, zr0]
    | some a =>
      have k1 : r.1 = 0 := k1
      simp only [k1, if_true, zr0]
      have hv2 : [zval e3 ad (zsb (zsg S.1.length I0.length T) a)] = [zval e1 ad r.2] := by
        have := hst
        simp only [k1, if_true] at this
        exact this
      have h9 : zval e3 ad (zsb (zsg S.1.length I0.length T) a) = zval e1 ad r.2 := by injection hv2
      rw [h9]
  · cases rt <;> simp [zr0]
  · intro hz
    cases rt with
    | none => cases hz
    | some a =>
      have k1 : r.1 = 0 := k1
      refine ⟨?_, hwf a (by show a ∈ [a]; exact List.mem_singleton.mpr rfl)⟩
      have hm2 : [a.1] = (if r.1 = 0 then [r.2] else []).map (fun a => a.1) := htag
      simp only [k1, if_true] at hm2
      have h9 : a.1 = r.2.1 := (List.cons.inj hm2).1
      have h10 := (r2 k1).1
      show (zsb (zsg S.1.length I0.length T) a).1 = 0
      unfold zsb
      by_cases hq : a.2.1 = 0
      · rw [if_pos hq]; omega
      · rw [if_neg hq]; show a.1 = 0; omega
  · unfold zk2
    exact @decide_eq_true _ (Classical.propDecidable _) ⟨Or.inl rfl, rfl, rfl⟩
theorem zconvX {rul : Nat → List zI} {D : va_G} {cy : Nat → ClassId} {ad : Nat → Nat} {A : Nat → Prop} {e : Nat → Int} {S : zS} {ct : zCt} {T : List zA} {st t : State} {E : String} (hs : zSat rul e S) (hl : ct.2.2.2.1.length ≤ ct.2.2.2.2.2.2.1.length) (hT : ∀ v, v < ct.2.2.2.1.length → zwf S.1.length (ztf T v))
    (hq : zXk rul D cy ad A (zkp ct) ct.2.2.2.1.length (zec (ztf T) e) E st t) :
    zXk rul D cy ad A (zk2 (zr0 ct.2.2.2.2.1 (zsg S.1.length ct.2.2.2.1.length T)) ct.2.2.2.2.2.2.2 (ct.2.2.2.2.2.1.map (zsbC (zsg S.1.length ct.2.2.2.1.length T))) (S.1 ++ ct.2.2.2.2.2.2.1.drop ct.2.2.2.1.length, S.2.1, S.2.2)) S.1.length e E st t := by
  obtain ⟨rk, aT, h0, I0, rt, h1T, I1, xs⟩ := ct
  obtain ⟨⟨e1, h1, S1, ws1, x, hx3, hEx, hk, hE⟩, hF⟩ := hq
  unfold zkp at hk
  rw [if_pos rfl] at hk
  simp only [Bool.and_eq_true, decide_eq_true_eq] at hk
  obtain ⟨⟨k1, -⟩, k3⟩ := hk
  obtain ⟨e3, hE3, -, -, -⟩ := zcv (st := []) (stT := []) hs hl hT hE (fun a ha => (nomatch ha)) k3
  refine ⟨⟨e3, h1T.map (zsbC (zsg S.1.length I0.length T)), (S.1 ++ I1.drop I0.length, S.2.1, S.2.2), ws1, x, hx3, hEx, ?_, hE3⟩, hF⟩
  unfold zk2
  exact @decide_eq_true _ (Classical.propDecidable _) ⟨Or.inr ⟨x, k1, rfl⟩, rfl, rfl⟩
