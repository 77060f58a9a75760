/-! ===== branches, fields, arrays ===== -/
def zcnd (op : Nat) : ClassFile.Cond := match op with
  | 0 => .eq
  | 1 => .ne
  | 2 => .lt
  | 3 => .ge
  | 4 => .gt
  | _ => .le
theorem zset_self {α : Type} {l : List α} {i : Nat} {x : α} (h : l[i]? = some x) : l.set i x = l := by
  apply List.ext_getElem?
  intro j
  by_cases hij : i = j
  · subst hij
    rw [List.getElem?_set_self (List.getElem?_eq_some_iff.mp h).1, h]
  · rw [List.getElem?_set_ne hij]
theorem zi0 : (0 : Int32) = Int32.ofInt 0 := by decide
section ZW
variable {rul : Nat → List zI} {D : va_G} {cy : Nat → ClassId} {ad : Nat → Nat} {A : Nat → Prop} {nL : Nat} {e : Nat → Int} {lc : zL} {st : List zA} {h : List zC} {S : zS} {ws : va_W} {H : Heap} {locs : List Loc} {ls : Array Slot}
variable {p : Program} {l : Launch} {ev : Env} {R : Room} {s : State} {m : MethodId} {args : Array Value} {below : List Frame} {meth : Method} {c : Code} {cells slots : Nat} {Q : State → Prop} {cc : ByteArray} {pc : Nat} {a b : zA}
theorem zk_icmp (op : Nat) (hx : p.tables.exec = Jvm.exec) (hb : c.code = cc) {off : Int} {tgt : Nat} (hi : zInv rul D cy ad A nL s.heap e lc (b :: a :: st) h S ws H locs ls) (ha : a.1 = 0) (hb0 : b.1 = 0) (ha2 : z32 S.1 a = true) (hb2 : z32 S.1 b = true) (hd : decode cc pc = .ok (.if_icmp (zcnd op) off, 3)) (ht : (pc : Int) + off = (tgt : Int))
    (kt : ∀ L' : List zI, zref op S.1 a b = some L' → zNx rul D cy ad A nL p l ev R s m args below meth c cells slots Q S.1.length e tgt lc st h (L', zfact op a b ++ S.2.1, S.2.2))
    (kf : ∀ L' : List zI, zref (znot op) S.1 a b = some L' → zNx rul D cy ad A nL p l ev R s m args below meth c cells slots Q S.1.length e (pc + 3) lc st h (L', zfact (znot op) a b ++ S.2.1, S.2.2)) : W p l ev R s m args below meth c H locs cells slots Q (F0 m pc ls (zst e ad (b :: a :: st))) := by
  rw [zst2 ha hb0]
  have qa := zin_ok hi.1.1 ha2
  have qb := zin_ok hi.1.1 hb2
  have wa := zin_wf ha2
  have wb := zin_wf hb2
  have hj := zI_tl (zI_tl hi)
  match op, hd, kt, kf with
  | 0, hd, kt, kf => exact lv_icmp_eq hx hb hd ht (fun hc => zk_br hj wa wb (show zrel 0 _ _ from (zc_eq qa qb).mp hc) kt) (fun hc => zk_br hj wa wb (znot_ok 0 (fun z => hc ((zc_eq qa qb).mpr z))) kf)
  | 1, hd, kt, kf => exact lv_icmp_ne hx hb hd ht (fun hc => zk_br hj wa wb (show zrel 1 _ _ from fun z => hc ((zc_eq qa qb).mpr z)) kt) (fun hc => zk_br hj wa wb (znot_ok 1 (fun z => z ((zc_eq qa qb).mp hc))) kf)
  | 2, hd, kt, kf => exact lv_icmp_lt hx hb hd ht (fun hc => zk_br hj wa wb (show zrel 2 _ _ from (zc_lt qa qb).mp hc) kt) (fun hc => zk_br hj wa wb (znot_ok 2 (fun z => hc ((zc_lt qa qb).mpr z))) kf)
  | 3, hd, kt, kf => exact lv_icmp_ge hx hb hd ht (fun hc => zk_br hj wa wb (show zrel 3 _ _ from (zc_le qb qa).mp hc) kt) (fun hc => zk_br hj wa wb (znot_ok 3 (fun z => hc ((zc_le qb qa).mpr z))) kf)
  | 4, hd, kt, kf => exact lv_icmp_gt hx hb hd ht (fun hc => zk_br hj wa wb (show zrel 4 _ _ from (zc_lt qb qa).mp hc) kt) (fun hc => zk_br hj wa wb (znot_ok 4 (fun z => hc ((zc_lt qb qa).mpr z))) kf)
  | n + 5, hd, kt, kf => exact lv_icmp_le hx hb hd ht (fun hc => zk_br hj wa wb (show zrel (n + 5) _ _ from (zc_le qa qb).mp hc) kt) (fun hc => zk_br hj wa wb (znot_ok (n + 5) (fun z => hc ((zc_le qa qb).mpr z))) kf)
theorem zk_if (op : Nat) (hx : p.tables.exec = Jvm.exec) (hb : c.code = cc) {off : Int} {tgt : Nat} (hi : zInv rul D cy ad A nL s.heap e lc (a :: st) h S ws H locs ls) (ha : a.1 = 0) (ha2 : z32 S.1 a = true) (hd : decode cc pc = .ok (.ifCond (zcnd op) off, 3)) (ht : (pc : Int) + off = (tgt : Int))
    (kt : ∀ L' : List zI, zref op S.1 a (0, 0, 0, 0) = some L' → zNx rul D cy ad A nL p l ev R s m args below meth c cells slots Q S.1.length e tgt lc st h (L', zfact op a (0, 0, 0, 0) ++ S.2.1, S.2.2))
    (kf : ∀ L' : List zI, zref (znot op) S.1 a (0, 0, 0, 0) = some L' → zNx rul D cy ad A nL p l ev R s m args below meth c cells slots Q S.1.length e (pc + 3) lc st h (L', zfact (znot op) a (0, 0, 0, 0) ++ S.2.1, S.2.2)) : W p l ev R s m args below meth c H locs cells slots Q (F0 m pc ls (zst e ad (a :: st))) := by
  show W p l ev R s m args below meth c H locs cells slots Q (F0 m pc ls (zval e ad a :: zst e ad st))
  rw [zval_0 ha]
  have qa := zin_ok hi.1.1 ha2
  have qb : -2147483648 ≤ (0 : Int) ∧ (0 : Int) ≤ 2147483647 := by decide
  have wa := zin_wf ha2
  have wb : zwf S.1.length (0, 0, 0, 0) := Or.inl rfl
  have hj := zI_tl hi
  have z0 : zv e (0, 0, 0, 0) = 0 := zv_c e 0
  have eq0 : Int32.ofInt (zv e a) = 0 ↔ zv e a = 0 := by rw [zi0]; exact zc_eq qa qb
  have lt0 : Int32.ofInt (zv e a) < 0 ↔ zv e a < 0 := by rw [zi0]; exact zc_lt qa qb
  have gt0 : 0 < Int32.ofInt (zv e a) ↔ 0 < zv e a := by rw [zi0]; exact zc_lt qb qa
  have le0 : Int32.ofInt (zv e a) ≤ 0 ↔ zv e a ≤ 0 := by rw [zi0]; exact zc_le qa qb
  have ge0 : 0 ≤ Int32.ofInt (zv e a) ↔ 0 ≤ zv e a := by rw [zi0]; exact zc_le qb qa
  rw [← z0] at eq0 lt0 gt0 le0 ge0
  match op, hd, kt, kf with
  | 0, hd, kt, kf => exact lv_if_eq hx hb hd ht (fun hc => zk_br hj wa wb (show zrel 0 _ _ from by rw [z0] at eq0 ⊢; exact eq0.mp hc) kt) (fun hc => zk_br hj wa wb (znot_ok 0 (fun z => hc (by rw [z0] at eq0; exact eq0.mpr (z.trans z0)))) kf)
  | 1, hd, kt, kf => exact lv_if_ne hx hb hd ht (fun hc => zk_br hj wa wb (show zrel 1 _ _ from fun z => hc (by rw [z0] at eq0; exact eq0.mpr (z.trans z0))) kt) (fun hc => zk_br hj wa wb (znot_ok 1 (fun z => z (by rw [z0] at eq0 ⊢; exact eq0.mp hc))) kf)
  | 2, hd, kt, kf => exact lv_if_lt hx hb hd ht (fun hc => zk_br hj wa wb (show zrel 2 _ _ from by rw [z0] at lt0; show zv e a < zv e (0, 0, 0, 0); rw [z0]; exact lt0.mp hc) kt) (fun hc => zk_br hj wa wb (znot_ok 2 (fun z => hc (by rw [z0] at lt0; exact lt0.mpr (by have z : zv e a < zv e (0, 0, 0, 0) := z; rw [z0] at z; exact z)))) kf)
  | 3, hd, kt, kf => exact lv_if_ge hx hb hd ht (fun hc => zk_br hj wa wb (show zrel 3 _ _ from by rw [z0] at ge0; show zv e (0, 0, 0, 0) ≤ zv e a; rw [z0]; exact ge0.mp hc) kt) (fun hc => zk_br hj wa wb (znot_ok 3 (fun z => hc (by rw [z0] at ge0; exact ge0.mpr (by have z : zv e (0, 0, 0, 0) ≤ zv e a := z; rw [z0] at z; exact z)))) kf)
  | 4, hd, kt, kf => exact lv_if_gt hx hb hd ht (fun hc => zk_br hj wa wb (show zrel 4 _ _ from by rw [z0] at gt0; show zv e (0, 0, 0, 0) < zv e a; rw [z0]; exact gt0.mp hc) kt) (fun hc => zk_br hj wa wb (znot_ok 4 (fun z => hc (by rw [z0] at gt0; exact gt0.mpr (by have z : zv e (0, 0, 0, 0) < zv e a := z; rw [z0] at z; exact z)))) kf)
  | n + 5, hd, kt, kf => exact lv_if_le hx hb hd ht (fun hc => zk_br hj wa wb (show zrel (n + 5) _ _ from by rw [z0] at le0; show zv e a ≤ zv e (0, 0, 0, 0); rw [z0]; exact le0.mp hc) kt) (fun hc => zk_br hj wa wb (znot_ok (n + 5) (fun z => hc (by rw [z0] at le0; exact le0.mpr (by have z : zv e a ≤ zv e (0, 0, 0, 0) := z; rw [z0] at z; exact z)))) kf)
/-- what the tables say of the classes -/
def zCl : Prop := ∀ (ci : Nat) (r : vw_C), vwCl[ci]? = some r → (∀ w ∈ u_ws r.1 r.2.1 r.2.2, w ∈ zTg) ∧ ∃ ty0 : Nat → FieldType, (∀ k, k < r.2.2 → parseFieldDescriptor (r.2.1 k).2.2.1 = some (ty0 k)) ∧ ∀ a, a < r.2.2 → ∀ b, b < r.2.2 → a ≠ b → (r.2.1 a).2.1 ≠ (r.2.1 b).2.1
theorem zk_get (hx : p.tables.exec = Jvm.exec) (hb : c.code = cc) {own : String} {ix ci k N len rr : Nat} {C : String} {T : u_T} {fs : List zA} (hts : ∀ w ∈ zTg, w.before args s = true) (hcl : zCl) (hown : s.vm.findClass own = some m.cls) (hK : va_K D vwCl (ztys cy) s)
    (hi : zInv rul D cy ad A nL s.heap e lc (a :: st) h S ws H locs ls) (ha : a.1 = 2) (hh : h[a.2.2.1]? = some (0, ci, len, rr, fs)) (hr : vwCl[ci]? = some (C, T, N)) (hk : k < N) (hf : fs[k]? = some b) (hlk : Cond.fieldLink own ix (T k).1 (T k).2.1 (T k).2.2.1 ∈ zTg) (hd : decode cc pc = .ok (.getfield ix, 3))
    (kk : zNx rul D cy ad A nL p l ev R s m args below meth c cells slots Q S.1.length e (pc + 3) lc (b :: st) h S) : W p l ev R s m args below meth c H locs cells slots Q (F0 m pc ls (zst e ad (a :: st))) := by
  show W p l ev R s m args below meth c H locs cells slots Q (F0 m pc ls (zval e ad a :: zst e ad st))
  rw [zval_2 ha]
  obtain ⟨E, q1, q2⟩ := hi.2.2.2.2.1.2 _ _ hh
  have q2 : E = .inr (ci, zst e ad fs) := q2
  subst q2
  have hv : (zst e ad fs)[k]? = some (zval e ad b) := by unfold zst; rw [List.getElem?_map, hf]; rfl
  exact va_get (D := D) hx hb hts (hcl ci _ hr).1 hown hK hi.2.2.2.2.2.1 _ q1 hr k hk (hts _ hlk) (fun _ q => q) hv hd (zk_on (zI_tl hi) (hi.2.2.2.1 _ (List.mem_of_getElem? hh) _ (List.mem_of_getElem? hf)) kk)
theorem zk_put (hx : p.tables.exec = Jvm.exec) (hb : c.code = cc) {own : String} {ix ci k N len rr : Nat} {C : String} {T : u_T} {fs : List zA} {ty : FieldType} (hts : ∀ w ∈ zTg, w.before args s = true) (hcl : zCl) (hown : s.vm.findClass own = some m.cls) (hK : va_K D vwCl (ztys cy) s)
    (hi : zInv rul D cy ad A nL s.heap e lc (b :: a :: st) h S ws H locs ls) (ha : a.1 = 2) (hb0 : b.1 = 0) (hh : h[a.2.2.1]? = some (0, ci, len, rr, fs)) (hr : vwCl[ci]? = some (C, T, N)) (hk : k < N) (hf : k < fs.length) (hlk : Cond.fieldLink own ix (T k).1 (T k).2.1 (T k).2.2.1 ∈ zTg) (hfin : (T k).2.2.2 = false)
    (hty : parseFieldDescriptor (T k).2.2.1 = some ty) (hty2 : ty = .int ∨ (ty = .boolean ∧ zin S.1 b 0 1 = true)) (hd : decode cc pc = .ok (.putfield ix, 3))
    (kk : zNx rul D cy ad A nL p l ev R s m args below meth c cells slots Q S.1.length e (pc + 3) lc st (h.set a.2.2.1 (0, ci, len, rr, fs.set k b)) S) : W p l ev R s m args below meth c H locs cells slots Q (F0 m pc ls (zst e ad (b :: a :: st))) := by
  show W p l ev R s m args below meth c H locs cells slots Q (F0 m pc ls (zval e ad b :: zval e ad a :: zst e ad st))
  rw [zval_2 ha]
  obtain ⟨E, q1, q2⟩ := hi.2.2.2.2.1.2 _ _ hh
  have q2 : E = .inr (ci, zst e ad fs) := q2
  subst q2
  obtain ⟨hin, ty0, t1, t2⟩ := hcl ci _ hr
  have hn : narrow ty (zval e ad b) = zval e ad b ∧ fits ty (zval e ad b) = true := by
    rw [zval_0 hb0]
    rcases hty2 with rfl | ⟨rfl, hz⟩
    · exact ⟨rfl, rfl⟩
    · obtain ⟨z1, z2⟩ := zin_ok hi.1.1 hz
      have hz3 : zv e b = 0 ∨ zv e b = 1 := by omega
      rcases hz3 with hz3 | hz3
      · rw [hz3]; exact ⟨by decide +kernel, by decide +kernel⟩
      · rw [hz3]; exact ⟨by decide +kernel, by decide +kernel⟩
  refine va_put (D := D) hx hb hts hin ty0 t1 t2 hown hK hi.2.2.2.2.2.1 hi.2.2.2.2.2.2.1 hi.2.2.2.2.2.2.2.1 _ q1 hr k hk (hts _ hlk) (fun _ q => q) hfin hty hn.1 hn.2 (by show k < (zst e ad fs).length; unfold zst; rw [List.length_map]; exact hf) hd fun H1 locs1 hP1 hD1 hS1 => ?_
  have hm := List.mem_of_getElem? hh
  have e1 : (zst e ad fs).set k (zval e ad b) = zst e ad (fs.set k b) := by unfold zst; rw [List.map_set]
  rw [e1] at hP1 hD1
  refine kk e _ H1 locs1 ls (zag_rf _ _) (Nat.le_refl _) (zI_hp (zI_tl (zI_tl hi)) (fun c9 hc9 x hx9 => ?_) (zHR_set hi.2.2.2.2.1 (show zCR rul cy e ad (0, ci, len, rr, fs.set k b) _ from rfl)) hP1 hD1 hS1)
  rcases List.mem_or_eq_of_mem_set hc9 with z | z
  · exact hi.2.2.2.1 c9 z x hx9
  · rw [z] at hx9
    rcases List.mem_or_eq_of_mem_set hx9 with y | y
    · exact hi.2.2.2.1 _ hm x y
    · rw [y]; exact zI_hd hi
/-- what is known of a cell changes, the cell doesn't -/
theorem zHR_know {i : Nat} {c' : zC} {E : va_E} (hr : zHR rul cy e ad h ws) (hw : ws[i]? = some (ad i, E)) (hc : zCR rul cy e ad c' E) : zHR rul cy e ad (h.set i c') ws := by
  have := zHR_set (i := i) hr hc
  rwa [zset_self hw] at this
theorem zwf_set {n i : Nat} {c' : zC} (hw : ∀ c ∈ h, ∀ a ∈ c.2.2.2.2, zwf n a) (hc : ∀ a ∈ c'.2.2.2.2, zwf n a) : ∀ c ∈ h.set i c', ∀ a ∈ c.2.2.2.2, zwf n a := by
  intro c9 hc9 x hx9
  rcases List.mem_or_eq_of_mem_set hc9 with z | z
  · exact hw c9 z x hx9
  · rw [z] at hx9
    exact hc x hx9
/-- a place of an array by a rule is read -/
theorem zk_ialdR (hx : p.tables.exec = Jvm.exec) (hb : c.code = cc) {len rr : Nat} {fs : List zA} (hK : va_K D vwCl (ztys cy) s) (hi : zInv rul D cy ad A nL s.heap e lc (b :: a :: st) h S ws H locs ls) (ha : a.1 = 2) (hb0 : b.1 = 0) (hh : h[a.2.2.1]? = some (2, 0, len, rr, fs)) (hlen : len < 2 ^ 31) (hz : zin S.1 b 0 ((len : Int) - 1) = true) (hd : decode cc pc = .ok (.iaload, 1))
    (kk : zNx rul D cy ad A nL p l ev R s m args below meth c cells slots Q S.1.length e (pc + 1) lc (zvar S :: st) (h.set a.2.2.1 (2, 0, len, rr, zrp rr b (zvar S) fs)) ((zpush S (zrb rr S fs b (zrd (rul rr) b))).1, (zpush S (zrb rr S fs b (zrd (rul rr) b))).2.1, (S.1.length, rr, b) :: (zpush S (zrb rr S fs b (zrd (rul rr) b))).2.2)) : W p l ev R s m args below meth c H locs cells slots Q (F0 m pc ls (zst e ad (b :: a :: st))) := by
  show W p l ev R s m args below meth c H locs cells slots Q (F0 m pc ls (zval e ad b :: zval e ad a :: zst e ad st))
  rw [zval_2 ha, zval_0 hb0]
  obtain ⟨E, q1, f, q2, q3, q4⟩ := hi.2.2.2.2.1.2 _ _ hh
  subst q2
  obtain ⟨z1, z2⟩ := zin_ok hi.1.1 hz
  obtain ⟨y1, y2⟩ := zc_in (n := len) z1 (by omega) hlen
  refine va_iald (D := D) hx hb hK hi.2.2.2.2.2.1 _ 0 q1 rfl y1 hd ?_
  rw [y2]
  have hj : ((zv e b).toNat : Int) = zv e b := Int.toNat_of_nonneg z1
  have hok := q3 (zv e b).toNat (by show (zv e b).toNat < len; omega)
  have hbd := zrb_ok hi.1.1 q4 hj (zrd_ok (e := e) (a := b) hj hok)
  have hbd : (zrb rr S fs b (zrd (rul rr) b)).1 ≤ (f (zv e b).toNat).toInt ∧ (f (zv e b).toNat).toInt ≤ (zrb rr S fs b (zrd (rul rr) b)).2 := hbd
  generalize zrb rr S fs b (zrd (rul rr) b) = i9 at hbd kk
  have hsat := zSat_push (i := i9) hi.1 hbd
  have ag := zag_ext e S.1.length (f (zv e b).toNat).toInt
  have wb := zI_hd hi
  have hsat2 := zSat_note (F := (S.1.length, rr, b)) hsat ⟨by rw [zpush_len]; omega, zwf_le wb (by rw [zpush_len]; omega), (zv e b).toNat, by show zv _ b = _; rw [zv_ag ag wb]; exact hj.symm, by show zok (rul rr) _ (zext e S.1.length _ S.1.length); rw [zext_at]; exact hok⟩
  have hln : S.1.length ≤ (zpush S i9).1.length := by rw [zpush_len]; omega
  have hj2 := zInv_ext (zI_tl (zI_tl hi)) ag hsat2 hln
  have hwfs : ∀ x ∈ fs, zwf S.1.length x := hi.2.2.2.1 _ (List.mem_of_getElem? hh)
  have hj3 := zI_hp hj2 (zwf_set (i := a.2.2.1) (c' := (2, 0, len, rr, zrp rr b (zvar S) fs)) hj2.2.2.2.1 (zrp_wf (fun x hx9 => zwf_le (hwfs x hx9) hln) (zwf_le wb hln) (zvar_wf S i9))) (zHR_know hj2.2.2.2.2.1 q1 (show zCR rul cy _ ad (2, 0, len, rr, zrp rr b (zvar S) fs) _ from ⟨f, rfl, q3, by
    show zX rr f ((zrp rr b (zvar S) fs).map (zv (zext e S.1.length (f (zv e b).toNat).toInt)))
    refine zrp_ok (j := (zv e b).toNat) ?_ (by rw [zv_ag ag wb]; exact hj) (zvar_v S e _)
    rw [zmv_ag ag hwfs]
    exact q4⟩)) hj2.2.2.2.2.2.1 hj2.2.2.2.2.2.2.1 hj2.2.2.2.2.2.2.2.1
  have hk := kk _ ws H locs ls ag hln (zI_cons hj3 (zvar_wf S i9))
  have e1 : zst (zext e S.1.length (f (zv e b).toNat).toInt) ad (zvar S :: st) = Value.int (f (zv e b).toNat) :: zst e ad st := by
    show zval _ ad (zvar S) :: zst _ ad st = _
    rw [zst_ag ag (zI_tl (zI_tl hi)).2.2.1, zval_0 rfl, zvar_v, Int32.ofInt_toInt]
  rw [e1] at hk
  exact hk
/-- .. and written -/
theorem zk_iastR (hx : p.tables.exec = Jvm.exec) (hb : c.code = cc) {d : zA} {len rr : Nat} {fs fs' : List zA} (hK : va_K D vwCl (ztys cy) s) (hi : zInv rul D cy ad A nL s.heap e lc (d :: b :: a :: st) h S ws H locs ls) (ha : a.1 = 2) (hb0 : b.1 = 0) (hd0 : d.1 = 0) (hh : h[a.2.2.1]? = some (2, 0, len, rr, fs)) (hlen : len < 2 ^ 31) (hz : zin S.1 b 0 ((len : Int) - 1) = true) (hw : zwr S rr (rul rr) b d = true) (hp : zwp rr S b d fs = some fs') (hd : decode cc pc = .ok (.iastore, 1))
    (kk : zNx rul D cy ad A nL p l ev R s m args below meth c cells slots Q S.1.length e (pc + 1) lc st (h.set a.2.2.1 (2, 0, len, rr, fs')) S) : W p l ev R s m args below meth c H locs cells slots Q (F0 m pc ls (zst e ad (d :: b :: a :: st))) := by
  show W p l ev R s m args below meth c H locs cells slots Q (F0 m pc ls (zval e ad d :: zval e ad b :: zval e ad a :: zst e ad st))
  rw [zval_2 ha, zval_0 hb0, zval_0 hd0]
  obtain ⟨E, q1, f, q2, q3, q4⟩ := hi.2.2.2.2.1.2 _ _ hh
  subst q2
  obtain ⟨z1, z2⟩ := zin_ok hi.1.1 hz
  obtain ⟨y1, y2⟩ := zc_in (n := len) z1 (by omega) hlen
  have hj : ((zv e b).toNat : Int) = zv e b := Int.toNat_of_nonneg z1
  have hnew := zwr_ok hi.1 hj hw
  refine va_iast (D := D) hx hb hK hi.2.2.2.2.2.1 hi.2.2.2.2.2.2.1 hi.2.2.2.2.2.2.2.1 _ 0 q1 rfl y1 hd fun H1 locs1 hP1 hD1 hS1 => ?_
  rw [y2] at hP1 hD1
  have hwfs : ∀ x ∈ fs, zwf S.1.length x := hi.2.2.2.1 _ (List.mem_of_getElem? hh)
  refine kk e _ H1 locs1 ls (zag_rf _ _) (Nat.le_refl _) (zI_hp (zI_tl (zI_tl (zI_tl hi))) (zwf_set hi.2.2.2.1 (zwp_wf hp hwfs (zI_hd (zI_tl hi)) (zI_hd hi))) ?_ hP1 hD1 hS1)
  refine zHR_set hi.2.2.2.2.1 (show zCR rul cy e ad (2, 0, len, rr, fs') _ from ⟨_, rfl, fun j hjl => ?_, zwp_ok hi.1.1 q4 hj hp (pk_us ..) (fun i hi9 => pk_un hi9)⟩)
  by_cases hjj : j = (zv e b).toNat
  · subst hjj
    rw [pk_us]
    exact hnew
  · rw [pk_un hjj]
    exact q3 j hjl
end ZW
