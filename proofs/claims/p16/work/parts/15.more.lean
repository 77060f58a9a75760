/-! ===== arrays place by place, arrays of cells, longs, switches, copies ===== -/
theorem zxor_neg (x y : Int32) : (x ^^^ y).toInt < 0 ↔ ((x.toInt < 0) ≠ (y.toInt < 0)) := by
  have h : ∀ z : Int32, z.toBitVec.msb = decide (z.toInt < 0) := fun z => BitVec.msb_eq_toInt
  have hx := h x
  have hy := h y
  have hz := h (x ^^^ y)
  rw [Int32.toBitVec_xor, BitVec.msb_xor, hx, hy] at hz
  by_cases h1 : x.toInt < 0 <;> by_cases h2 : y.toInt < 0 <;> simp [h1, h2] at hz ⊢ <;> first | exact hz | (intro q; omega) | omega
section ZW
variable {rul : Nat → List zI} {D : va_G} {cy : Nat → ClassId} {ad : Nat → Nat} {A : Nat → Prop} {nL : Nat} {e : Nat → Int} {lc : zL} {st : List zA} {h : List zC} {S : zS} {ws : va_W} {H : Heap} {locs : List Loc} {ls : Array Slot}
variable {p : Program} {l : Launch} {ev : Env} {R : Room} {s : State} {m : MethodId} {args : Array Value} {below : List Frame} {meth : Method} {c : Code} {cells slots : Nat} {Q : State → Prop} {cc : ByteArray} {pc : Nat} {a b : zA}
/-- the number is j: on with that -/
theorem zI_is (hi : zInv rul D cy ad A nL s.heap e lc st h S ws H locs ls) {j : Int} (hj : zv e b = j) : ∃ L' : List zI, zref 0 S.1 b (0, 0, 0, j) = some L' ∧ L'.length = S.1.length ∧ zInv rul D cy ad A nL s.heap e lc st h (L', S.2.1, S.2.2) ws H locs ls := by
  obtain ⟨L', e1, h1, l1⟩ := zref_ok (a := b) (b := (0, 0, 0, j)) 0 hi.1.1 (show zrel 0 (zv e b) _ from by rw [zv_c]; exact hj)
  exact ⟨L', e1, l1, zI_S hi (zSat_ref hi.1 h1 l1) l1⟩
theorem zk_ialdE (hx : p.tables.exec = Jvm.exec) (hb : c.code = cc) {len rr : Nat} {fs : List zA} (hK : va_K D vwCl (ztys cy) s) (hi : zInv rul D cy ad A nL s.heap e lc (b :: a :: st) h S ws H locs ls) (ha : a.1 = 2) (hb0 : b.1 = 0) (hh : h[a.2.2.1]? = some (1, 0, len, rr, fs)) (hlen : len < 2 ^ 31) (hz : zin S.1 b 0 ((len : Int) - 1) = true) (htg : ∀ d ∈ fs, d.1 = 0) (hd : decode cc pc = .ok (.iaload, 1))
    (kk : ∀ (j : Nat) (L' : List zI) (d : zA), j < len → zref 0 S.1 b (0, 0, 0, (j : Int)) = some L' → fs[j]? = some d → zNx rul D cy ad A nL p l ev R s m args below meth c cells slots Q S.1.length e (pc + 1) lc (d :: st) h (L', S.2.1, S.2.2)) : W p l ev R s m args below meth c H locs cells slots Q (F0 m pc ls (zst e ad (b :: a :: st))) := by
  show W p l ev R s m args below meth c H locs cells slots Q (F0 m pc ls (zval e ad b :: zval e ad a :: zst e ad st))
  rw [zval_2 ha, zval_0 hb0]
  obtain ⟨E, q1, f, q2, q3, q4⟩ := hi.2.2.2.2.1.2 _ _ hh
  subst q2
  have q3 : fs.length = len := q3
  obtain ⟨z1, z2⟩ := zin_ok hi.1.1 hz
  obtain ⟨y1, y2⟩ := zc_in (n := len) z1 (by omega) hlen
  refine va_iald (D := D) hx hb hK hi.2.2.2.2.2.1 _ 0 q1 rfl y1 hd ?_
  rw [y2]
  have hj : zv e b = ((zv e b).toNat : Int) := (Int.toNat_of_nonneg z1).symm
  obtain ⟨L', e1, l1, hi2⟩ := zI_is (b := b) (zI_tl (zI_tl hi)) hj
  have hlt : (zv e b).toNat < len := by omega
  obtain ⟨d, hdd⟩ : ∃ d, fs[(zv e b).toNat]? = some d := ⟨_, List.getElem?_eq_getElem (by omega)⟩
  have hk := kk (zv e b).toNat L' d hlt e1 hdd e ws H locs ls (zag_rf _ _) (Nat.le_of_eq l1.symm) (zI_cons hi2 (by show zwf L'.length d; rw [l1]; exact hi.2.2.2.1 _ (List.mem_of_getElem? hh) _ (List.mem_of_getElem? hdd)))
  have e2 : zst e ad (d :: st) = Value.int (f (zv e b).toNat) :: zst e ad st := by
    show zval e ad d :: zst e ad st = _
    rw [zval_0 (htg d (List.mem_of_getElem? hdd)), q4 _ d hdd]
  rw [e2] at hk
  exact hk
theorem zk_iastE (hx : p.tables.exec = Jvm.exec) (hb : c.code = cc) {d : zA} {len rr : Nat} {fs : List zA} (hK : va_K D vwCl (ztys cy) s) (hi : zInv rul D cy ad A nL s.heap e lc (d :: b :: a :: st) h S ws H locs ls) (ha : a.1 = 2) (hb0 : b.1 = 0) (hd0 : d.1 = 0) (hh : h[a.2.2.1]? = some (1, 0, len, rr, fs)) (hlen : len < 2 ^ 31) (hz : zin S.1 b 0 ((len : Int) - 1) = true) (hd : decode cc pc = .ok (.iastore, 1))
    (kk : ∀ (j : Nat) (L' : List zI), j < len → zref 0 S.1 b (0, 0, 0, (j : Int)) = some L' → zNx rul D cy ad A nL p l ev R s m args below meth c cells slots Q S.1.length e (pc + 1) lc st (h.set a.2.2.1 (1, 0, len, rr, fs.set j d)) (L', S.2.1, S.2.2)) : W p l ev R s m args below meth c H locs cells slots Q (F0 m pc ls (zst e ad (d :: b :: a :: st))) := by
  show W p l ev R s m args below meth c H locs cells slots Q (F0 m pc ls (zval e ad d :: zval e ad b :: zval e ad a :: zst e ad st))
  rw [zval_2 ha, zval_0 hb0, zval_0 hd0]
  obtain ⟨E, q1, f, q2, q3, q4⟩ := hi.2.2.2.2.1.2 _ _ hh
  subst q2
  have q3 : fs.length = len := q3
  obtain ⟨z1, z2⟩ := zin_ok hi.1.1 hz
  obtain ⟨y1, y2⟩ := zc_in (n := len) z1 (by omega) hlen
  have hj : zv e b = ((zv e b).toNat : Int) := (Int.toNat_of_nonneg z1).symm
  refine va_iast (D := D) hx hb hK hi.2.2.2.2.2.1 hi.2.2.2.2.2.2.1 hi.2.2.2.2.2.2.2.1 _ 0 q1 rfl y1 hd fun H1 locs1 hP1 hD1 hS1 => ?_
  rw [y2] at hP1 hD1
  have hlt : (zv e b).toNat < len := by omega
  have hm := List.mem_of_getElem? hh
  have hi1 : zInv rul D cy ad A nL s.heap e lc st (h.set a.2.2.1 (1, 0, len, rr, fs.set (zv e b).toNat d)) S _ H1 locs1 ls := zI_hp (zI_tl (zI_tl (zI_tl hi))) (fun c9 hc9 x hx9 => by
    rcases List.mem_or_eq_of_mem_set hc9 with z | z
    · exact hi.2.2.2.1 c9 z x hx9
    · rw [z] at hx9
      rcases List.mem_or_eq_of_mem_set hx9 with y | y
      · exact hi.2.2.2.1 _ hm x y
      · rw [y]; exact zI_hd hi) (zHR_set hi.2.2.2.2.1 (show zCR rul cy e ad (1, 0, len, rr, fs.set (zv e b).toNat d) _ from ⟨_, rfl, by show (fs.set _ d).length = len; rw [List.length_set]; exact q3, fun j x hjx => by
      by_cases hjj : (zv e b).toNat = j
      · subst hjj
        rw [List.getElem?_set_self (by omega)] at hjx
        cases hjx
        rw [pk_us]
      · rw [List.getElem?_set_ne hjj] at hjx
        rw [pk_un (fun q => hjj q.symm)]
        exact q4 j x hjx⟩)) hP1 hD1 hS1
  obtain ⟨L', e1, l1, hi2⟩ := zI_is (b := b) hi1 hj
  exact kk (zv e b).toNat L' hlt e1 e _ H1 locs1 ls (zag_rf _ _) (Nat.le_of_eq l1.symm) hi2
theorem zk_aald (hx : p.tables.exec = Jvm.exec) (hb : c.code = cc) {len rr t : Nat} {fs : List zA} {ty : FieldType} (hK : va_K D vwCl (ztys cy) s) (hi : zInv rul D cy ad A nL s.heap e lc (b :: a :: st) h S ws H locs ls) (ha : a.1 = 2) (hb0 : b.1 = 0) (hh : h[a.2.2.1]? = some (3, t, len, rr, fs)) (hty : (ztys cy)[t]? = some (cy t, ty)) (hrf : ty.isReference = true) (hlen : len < 2 ^ 31) (hz : zin S.1 b 0 ((len : Int) - 1) = true) (htg : ∀ d ∈ fs, d.1 = 2) (hd : decode cc pc = .ok (.aaload, 1))
    (kk : ∀ (j : Nat) (L' : List zI) (d : zA), j < len → zref 0 S.1 b (0, 0, 0, (j : Int)) = some L' → fs[j]? = some d → zNx rul D cy ad A nL p l ev R s m args below meth c cells slots Q S.1.length e (pc + 1) lc (d :: st) h (L', S.2.1, S.2.2)) : W p l ev R s m args below meth c H locs cells slots Q (F0 m pc ls (zst e ad (b :: a :: st))) := by
  show W p l ev R s m args below meth c H locs cells slots Q (F0 m pc ls (zval e ad b :: zval e ad a :: zst e ad st))
  rw [zval_2 ha, zval_0 hb0]
  obtain ⟨E, q1, f, q2, q3, q4⟩ := hi.2.2.2.2.1.2 _ _ hh
  subst q2
  have q3 : fs.length = len := q3
  obtain ⟨z1, z2⟩ := zin_ok hi.1.1 hz
  obtain ⟨y1, y2⟩ := zc_in (n := len) z1 (by omega) hlen
  have hj : zv e b = ((zv e b).toNat : Int) := (Int.toNat_of_nonneg z1).symm
  obtain ⟨L', e1, l1, hi2⟩ := zI_is (b := b) (zI_tl (zI_tl hi)) hj
  have hlt : (zv e b).toNat < len := by omega
  obtain ⟨d, hdd⟩ : ∃ d, fs[(zv e b).toNat]? = some d := ⟨_, List.getElem?_eq_getElem (by omega)⟩
  have hk := kk (zv e b).toNat L' d hlt e1 hdd e ws H locs ls (zag_rf _ _) (Nat.le_of_eq l1.symm) (zI_cons hi2 (by show zwf L'.length d; rw [l1]; exact hi.2.2.2.1 _ (List.mem_of_getElem? hh) _ (List.mem_of_getElem? hdd)))
  have e2 : zst e ad (d :: st) = va_rf (f (zv e b).toNat) :: zst e ad st := by
    show zval e ad d :: zst e ad st = _
    rw [zval_2 (htg d (List.mem_of_getElem? hdd)), q4 _ d hdd, if_neg (by rw [htg d (List.mem_of_getElem? hdd)]; decide)]
    rfl
  rw [e2] at hk
  exact W.aald (v := va_rf (f (zv e b).toNat)) (ty := ty) hx hb (hi.2.2.2.2.2.1 _ _ q1) ((hK.2 t _ hty).1 len (fun j => va_rf (f j))) hrf (fun q => by cases q) (by show ¬ (_ < 0 ∨ (arrV _ _ _).slots.size ≤ _); rw [arrV_size]; exact y1) (by show (arrV _ _ _).slots[_]? = _; rw [y2, arrV_read _ _ hlt]) rfl rfl hd hk
theorem zk_i2l (hx : p.tables.exec = Jvm.exec) (hb : c.code = cc) (hi : zInv rul D cy ad A nL s.heap e lc (a :: st) h S ws H locs ls) (ha : a.1 = 0) (hz : z32 S.1 a = true) (hd : decode cc pc = .ok (.i2l, 1))
    (kk : zNx rul D cy ad A nL p l ev R s m args below meth c cells slots Q S.1.length e (pc + 1) lc ((1, a.2) :: st) h S) : W p l ev R s m args below meth c H locs cells slots Q (F0 m pc ls (zst e ad (a :: st))) := by
  show W p l ev R s m args below meth c H locs cells slots Q (F0 m pc ls (zval e ad a :: zst e ad st))
  rw [zval_0 ha]
  refine lv_i2l (v := Int64.ofInt (zv e a)) hx hb hd (by rw [← Int64.ofInt_int32ToInt, z32_i (zin_ok hi.1.1 hz)]) ?_
  have hw : zwf S.1.length a := zI_hd hi
  exact zk_on (a := (1, a.2)) (zI_tl hi) hw kk
theorem zk_lconst (hx : p.tables.exec = Jvm.exec) (hb : c.code = cc) {n : Fin 2} (hi : zInv rul D cy ad A nL s.heap e lc st h S ws H locs ls) (hd : decode cc pc = .ok (.lconst n, 1))
    (kk : zNx rul D cy ad A nL p l ev R s m args below meth c cells slots Q S.1.length e (pc + 1) lc ((1, 0, 0, ((n : Nat) : Int)) :: st) h S) : W p l ev R s m args below meth c H locs cells slots Q (F0 m pc ls (zst e ad st)) := by
  refine lv_lconst (v := Int64.ofInt ((n : Nat) : Int)) hx hb hd (by rw [Int64.ofInt_eq_ofNat]) ?_
  have hk := zk_on (a := (1, 0, 0, ((n : Nat) : Int))) hi (Or.inl rfl) kk
  rw [zval_1 rfl, show zv e (1, 0, 0, ((n : Nat) : Int)) = ((n : Nat) : Int) from by unfold zv; simp] at hk
  exact hk
theorem zk_last (hx : p.tables.exec = Jvm.exec) (hb : c.code = cc) {d : zA} {len rr j : Nat} {fs : List zA} (hK : va_K D vwCl (ztys cy) s) (hi : zInv rul D cy ad A nL s.heap e lc (d :: b :: a :: st) h S ws H locs ls) (ha : a.1 = 2) (hb0 : b.1 = 0) (hd0 : d.1 = 1) (hh : h[a.2.2.1]? = some (4, 1, len, rr, fs)) (hlen : len < 2 ^ 31) (hz : zin S.1 b (j : Int) (j : Int) = true) (hj : j < len) (hd : decode cc pc = .ok (.lastore, 1))
    (kk : zNx rul D cy ad A nL p l ev R s m args below meth c cells slots Q S.1.length e (pc + 1) lc st (h.set a.2.2.1 (4, 1, len, rr, fs.set j d)) S) : W p l ev R s m args below meth c H locs cells slots Q (F0 m pc ls (zst e ad (d :: b :: a :: st))) := by
  show W p l ev R s m args below meth c H locs cells slots Q (F0 m pc ls (zval e ad d :: zval e ad b :: zval e ad a :: zst e ad st))
  rw [zval_2 ha, zval_0 hb0, zval_1 hd0]
  obtain ⟨E, q1, f, q2, q3, q4⟩ := hi.2.2.2.2.1.2 _ _ hh
  subst q2
  have q3 : fs.length = len := q3
  obtain ⟨z1, z2⟩ := zin_ok hi.1.1 hz
  have hjz : zv e b = (j : Int) := by omega
  obtain ⟨y1, y2⟩ := zc_in (z := zv e b) (n := len) (by omega) (by omega) hlen
  have y2 : (Int32.ofInt (zv e b)).toNatClampNeg = j := by rw [y2, hjz]; rfl
  refine va_last (D := D) hx hb hK hi.2.2.2.2.2.1 hi.2.2.2.2.2.2.1 hi.2.2.2.2.2.2.2.1 _ 1 q1 rfl y1 hd fun H1 locs1 hP1 hD1 hS1 => ?_
  rw [y2] at hP1 hD1
  have hm := List.mem_of_getElem? hh
  refine kk e _ H1 locs1 ls (zag_rf _ _) (Nat.le_refl _) (zI_hp (zI_tl (zI_tl (zI_tl hi))) (fun c9 hc9 x hx9 => ?_) (zHR_set hi.2.2.2.2.1 (show zCR rul cy e ad (4, 1, len, rr, fs.set j d) _ from ⟨_, rfl, by show (fs.set j d).length = len; rw [List.length_set]; exact q3, fun i x hix => ?_⟩)) hP1 hD1 hS1)
  · rcases List.mem_or_eq_of_mem_set hc9 with z | z
    · exact hi.2.2.2.1 c9 z x hx9
    · rw [z] at hx9
      rcases List.mem_or_eq_of_mem_set hx9 with y | y
      · exact hi.2.2.2.1 _ hm x y
      · rw [y]; exact zI_hd hi
  · by_cases hij : j = i
    · subst hij
      have hix : (fs.set j d)[j]? = some x := hix
      rw [List.getElem?_set_self (by omega)] at hix
      cases hix
      rw [pk_uLs]
    · have hix : (fs.set j d)[i]? = some x := hix
      rw [List.getElem?_set_ne hij] at hix
      rw [pk_uLn (fun q => hij q.symm)]
      exact q4 i x hix
theorem zk_ixor (hx : p.tables.exec = Jvm.exec) (hb : c.code = cc) (hi : zInv rul D cy ad A nL s.heap e lc (b :: a :: st) h S ws H locs ls) (ha : a.1 = 0) (hb0 : b.1 = 0) (ha2 : z32 S.1 a = true) (hz : zin S.1 b 0 2147483647 = true) (hd : decode cc pc = .ok (.ixor, 1))
    (kn : ∀ L' : List zI, zref 2 S.1 a (0, 0, 0, 0) = some L' → zNx rul D cy ad A nL p l ev R s m args below meth c cells slots Q S.1.length e (pc + 1) lc (zvar (L', S.2.1, S.2.2) :: st) h (zpush (L', S.2.1, S.2.2) (-2147483648, -1)))
    (kp : ∀ L' : List zI, zref 3 S.1 a (0, 0, 0, 0) = some L' → zNx rul D cy ad A nL p l ev R s m args below meth c cells slots Q S.1.length e (pc + 1) lc (zvar (L', S.2.1, S.2.2) :: st) h (zpush (L', S.2.1, S.2.2) (0, 2147483647))) : W p l ev R s m args below meth c H locs cells slots Q (F0 m pc ls (zst e ad (b :: a :: st))) := by
  rw [zst2 ha hb0]
  refine lv_ixor hx hb hd ?_
  obtain ⟨y1, y2⟩ := zin_ok hi.1.1 hz
  have qa := zin_ok hi.1.1 ha2
  have ea : (Int32.ofInt (zv e a)).toInt = zv e a := z32_i qa
  have eb : (Int32.ofInt (zv e b)).toInt = zv e b := z32_i ⟨by omega, by omega⟩
  have hxr := zxor_neg (Int32.ofInt (zv e a)) (Int32.ofInt (zv e b))
  rw [ea, eb] at hxr
  have hr := zi_rng (Int32.ofInt (zv e a) ^^^ Int32.ofInt (zv e b))
  have hnb : ¬ zv e b < 0 := by omega
  have hj := zI_tl (zI_tl hi)
  by_cases hc : zv e a < 0
  · obtain ⟨L', e1, h1, l1⟩ := zref_ok (b := (0, 0, 0, 0)) 2 hi.1.1 (show zrel 2 (zv e a) _ from by show zv e a < _; rw [zv_c]; exact hc)
    have hs := zSat_ref hi.1 h1 l1
    have hneg : (Int32.ofInt (zv e a) ^^^ Int32.ofInt (zv e b)).toInt < 0 := hxr.mpr (by simp [hc, hnb])
    have hz2 := zI_S (S' := (L', S.2.1, S.2.2)) hj hs l1
    have hk : zNx rul D cy ad A nL p l ev R s m args below meth c cells slots Q (L', S.2.1, S.2.2).1.length e (pc + 1) lc ((znew (L', S.2.1, S.2.2) (-2147483648, -1)).2 :: st) h (znew (L', S.2.1, S.2.2) (-2147483648, -1)).1 := by
      show zNx rul D cy ad A nL p l ev R s m args below meth c cells slots Q L'.length e (pc + 1) lc _ h _
      rw [l1]
      exact kn L' e1
    exact zk_res hz2 (znew_ok hs ⟨hr.1, by show _ ≤ (-1 : Int); omega⟩) hk
  · obtain ⟨L', e1, h1, l1⟩ := zref_ok (b := (0, 0, 0, 0)) 3 hi.1.1 (show zrel 3 (zv e a) _ from by show _ ≤ zv e a; rw [zv_c]; omega)
    have hs := zSat_ref hi.1 h1 l1
    have hneg : ¬ (Int32.ofInt (zv e a) ^^^ Int32.ofInt (zv e b)).toInt < 0 := fun q => by have := hxr.mp q; simp [hc, hnb] at this
    have hz2 := zI_S (S' := (L', S.2.1, S.2.2)) hj hs l1
    have hk : zNx rul D cy ad A nL p l ev R s m args below meth c cells slots Q (L', S.2.1, S.2.2).1.length e (pc + 1) lc ((znew (L', S.2.1, S.2.2) (0, 2147483647)).2 :: st) h (znew (L', S.2.1, S.2.2) (0, 2147483647)).1 := by
      show zNx rul D cy ad A nL p l ev R s m args below meth c cells slots Q L'.length e (pc + 1) lc _ h _
      rw [l1]
      exact kp L' e1
    exact zk_res hz2 (znew_ok hs ⟨by show (0 : Int) ≤ _; omega, hr.2⟩) hk
/-- a remainder, by the sign of what is divided -/
theorem zk_irem2 (hx : p.tables.exec = Jvm.exec) (hb : c.code = cc) {n : Int} (hi : zInv rul D cy ad A nL s.heap e lc ((0, 0, 0, n) :: a :: st) h S ws H locs ls) (ha : a.1 = 0) (hn : 0 < n) (hn2 : n ≤ 2147483647) (ha2 : z32 S.1 a = true) (hd : decode cc pc = .ok (.irem, 1))
    (kn : ∀ L' : List zI, zref 2 S.1 a (0, 0, 0, 0) = some L' → zNx rul D cy ad A nL p l ev R s m args below meth c cells slots Q S.1.length e (pc + 1) lc (zvar (L', S.2.1, S.2.2) :: st) h (zpush (L', S.2.1, S.2.2) (1 - n, 0)))
    (kp : ∀ L' : List zI, zref 3 S.1 a (0, 0, 0, 0) = some L' → zNx rul D cy ad A nL p l ev R s m args below meth c cells slots Q S.1.length e (pc + 1) lc (zvar (L', S.2.1, S.2.2) :: st) h (zpush (L', S.2.1, S.2.2) (0, n - 1))) : W p l ev R s m args below meth c H locs cells slots Q (F0 m pc ls (zst e ad ((0, 0, 0, n) :: a :: st))) := by
  rw [zst2 (b := (0, 0, 0, n)) ha rfl, zv_c]
  have qa := zin_ok hi.1.1 ha2
  have ea : (Int32.ofInt (zv e a)).toInt = zv e a := z32_i qa
  have eb : (Int32.ofInt n).toInt = n := z32_i ⟨by omega, hn2⟩
  have h0 : ¬ Int32.ofInt n = 0 := fun z => by
    rw [z] at eb
    have : (0 : Int32).toInt = 0 := by decide
    omega
  refine lv_irem hx hb hd h0 ?_
  have hv := zrem_x (x := Int32.ofInt (zv e a)) (d := Int32.ofInt n) (by omega)
  rw [ea, eb] at hv
  have hb9 : ((zv e a).tmod n).natAbs < n.natAbs := by
    rw [Int.natAbs_tmod]
    exact Nat.mod_lt _ (by omega)
  have hj := zI_tl (zI_tl hi)
  by_cases hc : zv e a < 0
  · obtain ⟨L', e1, h1, l1⟩ := zref_ok (b := (0, 0, 0, 0)) 2 hi.1.1 (show zrel 2 (zv e a) _ from by show zv e a < _; rw [zv_c]; exact hc)
    have hs := zSat_ref hi.1 h1 l1
    have hneg : (zv e a).tmod n ≤ 0 := by
      have h2 := Int.tmod_nonneg n (a := -(zv e a)) (by omega)
      rw [Int.neg_tmod] at h2
      omega
    have hz2 := zI_S (S' := (L', S.2.1, S.2.2)) hj hs l1
    have hk : zNx rul D cy ad A nL p l ev R s m args below meth c cells slots Q (L', S.2.1, S.2.2).1.length e (pc + 1) lc ((znew (L', S.2.1, S.2.2) (1 - n, 0)).2 :: st) h (znew (L', S.2.1, S.2.2) (1 - n, 0)).1 := by
      show zNx rul D cy ad A nL p l ev R s m args below meth c cells slots Q L'.length e (pc + 1) lc _ h _
      rw [l1]
      exact kn L' e1
    exact zk_res hz2 (znew_ok hs ⟨by show 1 - n ≤ _; omega, by show _ ≤ (0 : Int); omega⟩) hk
  · obtain ⟨L', e1, h1, l1⟩ := zref_ok (b := (0, 0, 0, 0)) 3 hi.1.1 (show zrel 3 (zv e a) _ from by show _ ≤ zv e a; rw [zv_c]; omega)
    have hs := zSat_ref hi.1 h1 l1
    have hpos := Int.tmod_nonneg n (a := zv e a) (by omega)
    have hz2 := zI_S (S' := (L', S.2.1, S.2.2)) hj hs l1
    have hk : zNx rul D cy ad A nL p l ev R s m args below meth c cells slots Q (L', S.2.1, S.2.2).1.length e (pc + 1) lc ((znew (L', S.2.1, S.2.2) (0, n - 1)).2 :: st) h (znew (L', S.2.1, S.2.2) (0, n - 1)).1 := by
      show zNx rul D cy ad A nL p l ev R s m args below meth c cells slots Q L'.length e (pc + 1) lc _ h _
      rw [l1]
      exact kp L' e1
    exact zk_res hz2 (znew_ok hs ⟨by show (0 : Int) ≤ _; omega, by show _ ≤ n - 1; omega⟩) hk
theorem zk_tab (hx : p.tables.exec = Jvm.exec) (hb : c.code = cc) {lo hi' dfl : Int} {offs : Array Int} {len tgt n : Nat} (tgts : List Nat) (hi : zInv rul D cy ad A nL s.heap e lc (a :: st) h S ws H locs ls) (ha : a.1 = 0) (hz : z32 S.1 a = true) (hd : decode cc pc = .ok (.tableswitch dfl lo hi' offs, len)) (hn : hi' = lo + (n : Int) - 1) (hdf : (pc : Int) + dfl = (tgt : Int)) (ho : ∀ j : Nat, j < n → ∃ (o : Int) (t : Nat), offs[j]? = some o ∧ tgts[j]? = some t ∧ (pc : Int) + o = (t : Int))
    (kl : ∀ L' : List zI, zref 2 S.1 a (0, 0, 0, lo) = some L' → zNx rul D cy ad A nL p l ev R s m args below meth c cells slots Q S.1.length e tgt lc st h (L', S.2.1, S.2.2))
    (kh : ∀ L' : List zI, zref 4 S.1 a (0, 0, 0, hi') = some L' → zNx rul D cy ad A nL p l ev R s m args below meth c cells slots Q S.1.length e tgt lc st h (L', S.2.1, S.2.2))
    (kj : ∀ (j t : Nat) (L' : List zI), j < n → tgts[j]? = some t → zref 0 S.1 a (0, 0, 0, lo + (j : Int)) = some L' → zNx rul D cy ad A nL p l ev R s m args below meth c cells slots Q S.1.length e t lc st h (L', S.2.1, S.2.2)) : W p l ev R s m args below meth c H locs cells slots Q (F0 m pc ls (zst e ad (a :: st))) := by
  show W p l ev R s m args below meth c H locs cells slots Q (F0 m pc ls (zval e ad a :: zst e ad st))
  rw [zval_0 ha]
  have qa := zin_ok hi.1.1 hz
  have ea : (Int32.ofInt (zv e a)).toInt = zv e a := z32_i qa
  have hj := zI_tl hi
  by_cases c1 : zv e a < lo
  · obtain ⟨L', e1, h1, l1⟩ := zref_ok (b := (0, 0, 0, lo)) 2 hi.1.1 (show zrel 2 (zv e a) _ from by show zv e a < _; rw [zv_c]; exact c1)
    exact lv_tableOut hx hb hd (Or.inl (by rw [ea]; exact c1)) hdf (kl L' e1 e ws H locs ls (zag_rf _ _) (Nat.le_of_eq l1.symm) (zI_S hj (zSat_ref hi.1 h1 l1) l1))
  · by_cases c2 : hi' < zv e a
    · obtain ⟨L', e1, h1, l1⟩ := zref_ok (b := (0, 0, 0, hi')) 4 hi.1.1 (show zrel 4 (zv e a) _ from by show _ < zv e a; rw [zv_c]; exact c2)
      exact lv_tableOut hx hb hd (Or.inr (by rw [ea]; exact c2)) hdf (kh L' e1 e ws H locs ls (zag_rf _ _) (Nat.le_of_eq l1.symm) (zI_S hj (zSat_ref hi.1 h1 l1) l1))
    · have hq : zv e a = lo + (((zv e a - lo).toNat : Nat) : Int) := by omega
      have hlt : (zv e a - lo).toNat < n := by omega
      obtain ⟨o, t, o1, o2, o3⟩ := ho _ hlt
      obtain ⟨L', e1, l1, hi2⟩ := zI_is (b := a) hj hq
      exact lv_tableIn hx hb hd (by rw [ea]; exact c1) (by rw [ea]; exact c2) (by rw [ea]; exact o1) o3 (kj _ t L' hlt o2 e1 e ws H locs ls (zag_rf _ _) (Nat.le_of_eq l1.symm) hi2)
theorem zk_copy (hx : p.tables.exec = Jvm.exec) (hb : c.code = cc) (hml : c.maxLocals = nL) {own : String} {ix : Nat} {n dp sp qd qs : zA} {ld lr rr : Nat} {fd fr : List zA} (hts : ∀ w ∈ zTg, w.before args s = true) (hown : s.vm.findClass own = some m.cls) (hK : va_K D vwCl (ztys cy) s) (hlk : Cond.methodLink own ix arraycopyName ∈ zTg) (hnt : Cond.native arraycopyName ∈ zTg) (hst : Cond.static arraycopyName ∈ zTg) (hin : Cond.initialized "java/lang/System" ∈ zTg)
    (hi : zInv rul D cy ad A nL s.heap e lc (n :: dp :: qd :: sp :: qs :: st) h S ws H locs ls) (h0 : n.1 = 0) (h1 : dp.1 = 0) (h2 : qd.1 = 2) (h3 : sp.1 = 0) (h4 : qs.1 = 2) (hd1 : h[qd.2.2.1]? = some (2, 0, ld, rr, fd)) (hs1 : h[qs.2.2.1]? = some (2, 0, lr, rr, fr)) (hr1 : ¬ rr = 1) (hr2 : ¬ rr = 2) (z1 : zin S.1 dp 0 0 = true) (z2 : zin S.1 sp 0 0 = true) (z3 : zin S.1 n 0 (lr : Int) = true) (z4 : zin S.1 n 0 (ld : Int) = true) (hl1 : lr < 2 ^ 31) (hl2 : ld < 2 ^ 31)
    (hfr : 1 ≤ R.frames) (hlo : ((zst e ad st).map fun v => v.category).sum + (nativeFrameWords "java/lang/System" "arraycopy" 5 + 11) ≤ R.locals) (hd : decode cc pc = .ok (.invokestatic ix, 3))
    (kk : zNx rul D cy ad A nL p l ev R s m args below meth c cells slots Q S.1.length e (pc + 3) lc st h S) : W p l ev R s m args below meth c H locs cells slots Q (F0 m pc ls (zst e ad (n :: dp :: qd :: sp :: qs :: st))) := by
  show W p l ev R s m args below meth c H locs cells slots Q (F0 m pc ls (zval e ad n :: zval e ad dp :: zval e ad qd :: zval e ad sp :: zval e ad qs :: zst e ad st))
  rw [zval_0 h0, zval_0 h1, zval_2 h2, zval_0 h3, zval_2 h4]
  obtain ⟨E, q1, f, q2, q3, q4⟩ := hi.2.2.2.2.1.2 _ _ hd1
  subst q2
  obtain ⟨E2, r1, g, r2, r3, r4⟩ := hi.2.2.2.2.1.2 _ _ hs1
  subst r2
  have w1 := zin_ok hi.1.1 z1
  have w2 := zin_ok hi.1.1 z2
  have w3 := zin_ok hi.1.1 z3
  have w4 := zin_ok hi.1.1 z4
  have e1 : zv e dp = 0 := by omega
  have e2 : zv e sp = 0 := by omega
  rw [e1, e2]
  have cl : ∀ z : Int, 0 ≤ z → z ≤ 2147483647 → ¬ Int32.ofInt z < 0 ∧ (Int32.ofInt z).toNatClampNeg = z.toNat := fun z a1 a2 => by
    have a3 : (Int32.ofInt z).toInt = z := z32_i ⟨by omega, a2⟩
    refine ⟨fun q => ?_, by rw [← Int32.toNat_toInt, a3]⟩
    rw [Int32.lt_iff_toInt_lt, a3] at q
    have : (0 : Int32).toInt = 0 := by decide
    omega
  obtain ⟨c1, c2⟩ := cl 0 (by omega) (by omega)
  obtain ⟨c3, c4⟩ := cl (zv e n) w3.1 (by omega)
  have c2 : (Int32.ofInt 0).toNatClampNeg = 0 := c2
  refine va_copyi (D := D) hx hb (hml.trans hi.2.2.2.2.2.2.2.2.1.symm) hown (hts _ hlk) (hts _ hnt) (hts _ hst) (hts _ hin) hK hi.2.2.2.2.2.1 hi.2.2.2.2.2.2.1 hi.2.2.2.2.2.2.2.1 _ _ 0 0 (ty := .int) r1 q1 rfl rfl rfl c1 c1 c3 (by show _ ≤ lr; rw [c2, c4]; omega) (by show _ ≤ ld; rw [c2, c4]; omega) (fun _ _ => rfl) hfr hlo hd fun H1 locs1 hP1 hD1 hS1 => ?_
  rw [c2, c4] at hP1 hD1
  have hm : h.set qd.2.2.1 (2, 0, ld, rr, fd) = h := zset_self hd1
  refine kk e _ H1 locs1 ls (zag_rf _ _) (Nat.le_refl _) (zI_hp (zI_tl (zI_tl (zI_tl (zI_tl (zI_tl hi))))) hi.2.2.2.1 ?_ hP1 hD1 hS1)
  rw [← hm]
  refine zHR_set hi.2.2.2.2.1 (show zCR rul cy e ad (2, 0, ld, rr, fd) _ from ⟨_, rfl, fun j hjl => ?_, zX_o hr1 hr2⟩)
  have hjl : j < ld := hjl
  by_cases hj : j < (zv e n).toNat
  · rw [pk_cpy_in (Nat.zero_le j) (by omega)]
    rw [show 0 + (j - 0) = j by omega]
    exact r3 j (by show j < lr; omega)
  · rw [pk_cpy_out (Or.inr (by omega))]
    exact q3 j hjl
theorem zand31 (x : Int32) : 0 ≤ (x &&& 31).toInt ∧ (x &&& 31).toInt ≤ 31 := by
  have h1 : (x &&& 31).toBitVec.toNat ≤ 31 := by
    rw [Int32.toBitVec_and, BitVec.toNat_and]
    exact Nat.and_le_right
  have h2 : (x &&& 31).toInt = ((x &&& 31).toBitVec.toNat : Int) := by
    show (x &&& 31).toBitVec.toInt = _
    exact BitVec.toInt_eq_toNat_of_lt (by omega)
  omega
theorem zk_iand (hx : p.tables.exec = Jvm.exec) (hb : c.code = cc) (hi : zInv rul D cy ad A nL s.heap e lc ((0, 0, 0, 31) :: a :: st) h S ws H locs ls) (ha : a.1 = 0) (hd : decode cc pc = .ok (.iand, 1))
    (kk : zNx rul D cy ad A nL p l ev R s m args below meth c cells slots Q S.1.length e (pc + 1) lc (zvar S :: st) h (zpush S (0, 31))) : W p l ev R s m args below meth c H locs cells slots Q (F0 m pc ls (zst e ad ((0, 0, 0, 31) :: a :: st))) := by
  rw [zst2 (b := (0, 0, 0, 31)) ha rfl, zv_c, show Int32.ofInt 31 = 31 from by decide]
  exact lv_iand hx hb hd (zk_res (zI_tl (zI_tl hi)) (znew_ok hi.1 (zand31 _)) kk)
/-- the script: where it lies, its length and its numbers (rules 101 and 100 say them); none writes there -/
def zSc (rul : Nat → List zI) (ad : Nat → Nat) (A : Nat → Prop) (U : State) : Prop := ∃ (L : Nat) (xs : Nat → Int32), L ≤ 3072 ∧ rul 101 = [((L : Int), (L : Int))] ∧ rul 100 = (List.range L).map (fun j => ((xs j).toInt, (xs j).toInt)) ∧ va_X (ad 43) L xs U U.heap ∧ ad 43 < U.heap.size ∧ ¬ A (ad 43)
theorem zk_alen (hx : p.tables.exec = Jvm.exec) (hb : c.code = cc) (hsc : zSc rul ad A s) (hi : zInv rul D cy ad A nL s.heap e lc ((2, 0, 43, 0) :: st) h S ws H locs ls) (hd : decode cc pc = .ok (.arraylength, 1))
    (kk : zNx rul D cy ad A nL p l ev R s m args below meth c cells slots Q S.1.length e (pc + 1) lc (zvar S :: st) h ((zpush S (0, 3072)).1, (zpush S (0, 3072)).2.1, (S.1.length, 101, (0, 0, 0, 0)) :: (zpush S (0, 3072)).2.2)) : W p l ev R s m args below meth c H locs cells slots Q (F0 m pc ls (zst e ad ((2, 0, 43, 0) :: st))) := by
  show W p l ev R s m args below meth c H locs cells slots Q (F0 m pc ls (.ref (ad 43) :: zst e ad st))
  obtain ⟨L, xs, hL, r1, r2, hX, hbl, hbA⟩ := hsc
  have ag := zag_ext e S.1.length (L : Int)
  have hln : S.1.length ≤ (zpush S (0, 3072)).1.length := by rw [zpush_len]; omega
  have hsat := zSat_push (i := (0, 3072)) (x := (L : Int)) hi.1 ⟨by show (0 : Int) ≤ _; omega, by show (L : Int) ≤ 3072; omega⟩
  have hsat2 := zSat_note (F := (S.1.length, 101, (0, 0, 0, 0))) hsat ⟨by rw [zpush_len]; omega, Or.inl rfl, 0, by show zv _ (0, 0, 0, 0) = _; rw [zv_c]; rfl, by
    show zok (rul 101) 0 (zext e S.1.length _ S.1.length)
    rw [zext_at, r1]
    exact ⟨((L : Int), (L : Int)), rfl, Int.le_refl _, Int.le_refl _⟩⟩
  have hj2 := zInv_ext (zI_tl hi) ag hsat2 hln
  have hk := kk _ ws H locs ls ag hln (zI_cons hj2 (zvar_wf S _))
  have e1 : zst (zext e S.1.length (L : Int)) ad (zvar S :: st) = Value.int (Int32.ofInt (L : Int)) :: zst e ad st := by
    show zval _ ad (zvar S) :: zst _ ad st = _
    rw [zst_ag ag (zI_tl hi).2.2.1, zval_0 rfl, zvar_v]
  rw [e1] at hk
  refine va_slen hx hb hX hbl hbA hi.2.2.2.2.2.2.2.1 hd ?_
  rw [← Int32.ofInt_eq_ofNat]
  exact hk
/-- a place of the script is one of its places -/
def zsix (S : zS) (b : zA) : Bool := decide (b.1 = 0 ∧ b.2.1 = 1 ∧ 0 ≤ b.2.2.2 ∧ b.2.2.2 ≤ 5) && zin S.1 (0, 1, b.2.2.1, 0) 0 2147483647 && S.2.2.any (fun q => decide (q.2.1 = 101 ∧ ((0, 1, q.1, -6), (0, 1, b.2.2.1, 0)) ∈ S.2.1))
def zsfd (b : zA) : List (Nat × Nat × zA) → Option Nat
  | [] => none
  | q :: r => if q.2.1 = 100 ∧ q.2.2 = b then some q.1 else zsfd b r
theorem zsfd_mem {b : zA} {v : Nat} : ∀ {l : List (Nat × Nat × zA)}, zsfd b l = some v → (v, 100, b) ∈ l
  | [], h => by cases h
  | q :: r, h => by
    unfold zsfd at h
    by_cases c : q.2.1 = 100 ∧ q.2.2 = b
    · rw [if_pos c] at h
      cases h
      obtain ⟨q0, q1, q2⟩ := q
      obtain ⟨c1, c2⟩ := c
      have c1 : q1 = 100 := c1
      have c2 : q2 = b := c2
      subst c1; subst c2
      exact List.mem_cons_self
    · rw [if_neg c] at h
      exact List.mem_cons_of_mem _ (zsfd_mem h)
theorem zsix_ok {L : Nat} (r1 : rul 101 = [((L : Int), (L : Int))]) (hs : zSat rul e S) (h : zsix S b = true) : b.1 = 0 ∧ ∃ j : Nat, zv e b = (j : Int) ∧ j < L := by
  unfold zsix at h
  simp only [Bool.and_eq_true, decide_eq_true_eq] at h
  obtain ⟨⟨⟨h0, h1, h2, h3⟩, h4⟩, h5⟩ := h
  obtain ⟨q, hq, hf⟩ := List.any_eq_true.mp h5
  obtain ⟨f1, f2⟩ := of_decide_eq_true hf
  obtain ⟨a1, a2, j, a3, a4⟩ := hs.2.2 q hq
  rw [f1, r1] at a4
  obtain ⟨i, i1, i2, i3⟩ := a4
  have hi1 : (((L : Int), (L : Int)) : zI) = i := by
    have : j % [((L : Int), (L : Int))].length = 0 := Nat.mod_one j
    rw [this] at i1
    simpa using i1
  subst hi1
  have i2 : (L : Int) ≤ e q.1 := i2
  have i3 : e q.1 ≤ (L : Int) := i3
  have hn := (hs.2.1 _ f2).2.2
  have hn : (1 : Int) * e b.2.2.1 + 0 ≤ 1 * e q.1 + -6 := hn
  have hz := (zin_ok hs.1 h4).1
  have hz : 0 ≤ (1 : Int) * e b.2.2.1 + 0 := hz
  have hv : zv e b = e b.2.2.1 + b.2.2.2 := by unfold zv; rw [h1]; omega
  exact ⟨h0, (zv e b).toNat, by omega, by omega⟩
theorem zk_scr (hx : p.tables.exec = Jvm.exec) (hb : c.code = cc) (hsc : zSc rul ad A s) (hi : zInv rul D cy ad A nL s.heap e lc (b :: (2, 0, 43, 0) :: st) h S ws H locs ls) (hz : zsix S b = true) (hd : decode cc pc = .ok (.iaload, 1))
    (k1 : ∀ v : Nat, zsfd b S.2.2 = some v → zNx rul D cy ad A nL p l ev R s m args below meth c cells slots Q S.1.length e (pc + 1) lc ((0, 1, v, 0) :: st) h S)
    (k2 : zsfd b S.2.2 = none → zNx rul D cy ad A nL p l ev R s m args below meth c cells slots Q S.1.length e (pc + 1) lc (zvar S :: st) h ((zpush S zfull).1, (zpush S zfull).2.1, (S.1.length, 100, b) :: (zpush S zfull).2.2)) : W p l ev R s m args below meth c H locs cells slots Q (F0 m pc ls (zst e ad (b :: (2, 0, 43, 0) :: st))) := by
  show W p l ev R s m args below meth c H locs cells slots Q (F0 m pc ls (zval e ad b :: .ref (ad 43) :: zst e ad st))
  obtain ⟨L, xs, hL, r1, r2, hX, hbl, hbA⟩ := hsc
  obtain ⟨hb0, j, hj, hjl⟩ := zsix_ok r1 hi.1 hz
  rw [zval_0 hb0]
  obtain ⟨y1, y2⟩ := zc_in (z := zv e b) (n := L) (by omega) (by omega) (by omega)
  refine va_sld hx hb hX hbl hbA hi.2.2.2.2.2.2.2.1 y1 hd ?_
  rw [y2, hj, show ((j : Int)).toNat = j from rfl]
  have hlen : (rul 100).length = L := by rw [r2, List.length_map, List.length_range]
  have hat : (rul 100)[j % (rul 100).length]? = some ((xs j).toInt, (xs j).toInt) := by
    rw [hlen, Nat.mod_eq_of_lt hjl, r2, List.getElem?_map, List.getElem?_range hjl]
    rfl
  cases hf : zsfd b S.2.2 with
  | some v =>
    obtain ⟨a1, a2, j', a3, a4⟩ := hi.1.2.2 _ (zsfd_mem hf)
    have a3 : zv e b = (j' : Int) := a3
    have hjj : j' = j := by omega
    subst hjj
    obtain ⟨i, i1, i2, i3⟩ := a4
    have i1 : (rul 100)[j' % (rul 100).length]? = some i := i1
    rw [hat] at i1
    cases i1
    have i2 : (xs j').toInt ≤ e v := i2
    have i3 : e v ≤ (xs j').toInt := i3
    have hk := zk_on (a := (0, 1, v, 0)) (zI_tl (zI_tl hi)) (Or.inr a1) (k1 v hf)
    rw [zval_0 rfl, show zv e (0, 1, v, 0) = (xs j').toInt from by show (1 : Int) * e v + 0 = _; omega, Int32.ofInt_toInt] at hk
    exact hk
  | none =>
    have hsat := zSat_push (i := zfull) (x := (xs j).toInt) hi.1 (zi_rng _)
    have ag := zag_ext e S.1.length (xs j).toInt
    have wb := zI_hd hi
    have hln : S.1.length ≤ (zpush S zfull).1.length := by rw [zpush_len]; omega
    have hsat2 := zSat_note (F := (S.1.length, 100, b)) hsat ⟨by rw [zpush_len]; omega, zwf_le wb hln, j, by show zv _ b = _; rw [zv_ag ag wb]; exact hj, by
      show zok (rul 100) j (zext e S.1.length _ S.1.length)
      rw [zext_at]
      exact ⟨_, hat, Int.le_refl _, Int.le_refl _⟩⟩
    have hj2 := zInv_ext (zI_tl (zI_tl hi)) ag hsat2 hln
    have hk := k2 hf _ ws H locs ls ag hln (zI_cons hj2 (zvar_wf S _))
    have e1 : zst (zext e S.1.length (xs j).toInt) ad (zvar S :: st) = Value.int (xs j) :: zst e ad st := by
      show zval _ ad (zvar S) :: zst _ ad st = _
      rw [zst_ag ag (zI_tl (zI_tl hi)).2.2.1, zval_0 rfl, zvar_v, Int32.ofInt_toInt]
    rw [e1] at hk
    exact hk
theorem zk_lald (hx : p.tables.exec = Jvm.exec) (hb : c.code = cc) {len rr j : Nat} {fs : List zA} {d : zA} (hK : va_K D vwCl (ztys cy) s) (hi : zInv rul D cy ad A nL s.heap e lc (b :: a :: st) h S ws H locs ls) (ha : a.1 = 2) (hb0 : b.1 = 0) (hh : h[a.2.2.1]? = some (4, 1, len, rr, fs)) (hlen : len < 2 ^ 31) (hz : zin S.1 b (j : Int) (j : Int) = true) (hj : j < len) (hdd : fs[j]? = some d) (hd1 : d.1 = 1) (hd : decode cc pc = .ok (.laload, 1))
    (kk : zNx rul D cy ad A nL p l ev R s m args below meth c cells slots Q S.1.length e (pc + 1) lc (d :: st) h S) : W p l ev R s m args below meth c H locs cells slots Q (F0 m pc ls (zst e ad (b :: a :: st))) := by
  show W p l ev R s m args below meth c H locs cells slots Q (F0 m pc ls (zval e ad b :: zval e ad a :: zst e ad st))
  rw [zval_2 ha, zval_0 hb0]
  obtain ⟨E, q1, f, q2, q3, q4⟩ := hi.2.2.2.2.1.2 _ _ hh
  subst q2
  obtain ⟨z1, z2⟩ := zin_ok hi.1.1 hz
  have hjz : zv e b = (j : Int) := by omega
  obtain ⟨y1, y2⟩ := zc_in (z := zv e b) (n := len) (by omega) (by omega) hlen
  have y2 : (Int32.ofInt (zv e b)).toNatClampNeg = j := by rw [y2, hjz]; rfl
  refine va_lald (D := D) hx hb hK hi.2.2.2.2.2.1 _ 1 q1 rfl y1 hd ?_
  rw [y2]
  have hk := zk_on (a := d) (zI_tl (zI_tl hi)) (hi.2.2.2.1 _ (List.mem_of_getElem? hh) _ (List.mem_of_getElem? hdd)) kk
  rw [zval_1 hd1, ← q4 j d hdd] at hk
  exact hk
theorem zlv_lcmp (hexec : p.tables.exec = Jvm.exec) (hb : c.code = cc) {x : Int64} {rest : List Value} (hdg : decode cc pc = .ok (.lcmp, 1))
    (k : W p l ev R s m args below meth c H locs cells slots Q (F0 m (pc + 1) ls (.int 0 :: rest))) : W p l ev R s m args below meth c H locs cells slots Q (F0 m pc ls (.long x :: .long x :: rest)) := by
  intro T hT X
  obtain ⟨t, a, b⟩ := k T hT X
  refine ⟨t, ?_, b⟩
  jvm_step X.here [X.here.top, hexec, hb, hdg]
  first | exact a | (simp; exact a) | (have hlt : ¬ x < x := Int64.lt_irrefl x; simp [hlt]; exact a)
theorem zk_lcmp (hx : p.tables.exec = Jvm.exec) (hb : c.code = cc) (hi : zInv rul D cy ad A nL s.heap e lc (b :: a :: st) h S ws H locs ls) (ha : a.1 = 1) (hb1 : b.1 = 1) (hab : a.2 = b.2) (hd : decode cc pc = .ok (.lcmp, 1))
    (kk : zNx rul D cy ad A nL p l ev R s m args below meth c cells slots Q S.1.length e (pc + 1) lc ((0, 0, 0, 0) :: st) h S) : W p l ev R s m args below meth c H locs cells slots Q (F0 m pc ls (zst e ad (b :: a :: st))) := by
  show W p l ev R s m args below meth c H locs cells slots Q (F0 m pc ls (zval e ad b :: zval e ad a :: zst e ad st))
  have hv : zv e a = zv e b := by unfold zv; rw [hab]
  rw [zval_1 ha, zval_1 hb1, hv]
  refine zlv_lcmp hx hb hd ?_
  have hk := zk_on (a := (0, 0, 0, 0)) (zI_tl (zI_tl hi)) (Or.inl rfl) kk
  rw [zval_0 rfl, zv_c] at hk
  exact hk
theorem zk_ialdA (hx : p.tables.exec = Jvm.exec) (hb : c.code = cc) {len rr : Nat} {fs : List zA} (hK : va_K D vwCl (ztys cy) s) (hi : zInv rul D cy ad A nL s.heap e lc (b :: a :: st) h S ws H locs ls) (ha : a.1 = 2) (hb0 : b.1 = 0) (hh : h[a.2.2.1]? = some (1, 0, len, rr, fs)) (hlen : len < 2 ^ 31) (hz : zin S.1 b 0 ((len : Int) - 1) = true) (hd : decode cc pc = .ok (.iaload, 1))
    (kk : zNx rul D cy ad A nL p l ev R s m args below meth c cells slots Q S.1.length e (pc + 1) lc (zvar S :: st) h (zpush S zfull)) : W p l ev R s m args below meth c H locs cells slots Q (F0 m pc ls (zst e ad (b :: a :: st))) := by
  show W p l ev R s m args below meth c H locs cells slots Q (F0 m pc ls (zval e ad b :: zval e ad a :: zst e ad st))
  rw [zval_2 ha, zval_0 hb0]
  obtain ⟨E, q1, f, q2, q3, q4⟩ := hi.2.2.2.2.1.2 _ _ hh
  subst q2
  obtain ⟨z1, z2⟩ := zin_ok hi.1.1 hz
  obtain ⟨y1, y2⟩ := zc_in (n := len) z1 (by omega) hlen
  refine va_iald (D := D) hx hb hK hi.2.2.2.2.2.1 _ 0 q1 rfl y1 hd ?_
  exact zk_res (zI_tl (zI_tl hi)) (znew_ok hi.1 (zi_rng _)) kk
theorem zk_if3 (hx : p.tables.exec = Jvm.exec) (hb : c.code = cc) {off : Int} {tgt : Nat} (hi : zInv rul D cy ad A nL s.heap e lc (a :: st) h S ws H locs ls) (ha : a.1 = 0) (ha2 : z32 S.1 a = true) (hd : decode cc pc = .ok (.ifCond .eq off, 3)) (ht : (pc : Int) + off = (tgt : Int))
    (kt : ∀ L' : List zI, zref 0 S.1 a (0, 0, 0, 0) = some L' → zNx rul D cy ad A nL p l ev R s m args below meth c cells slots Q S.1.length e tgt lc st h (L', zfact 0 a (0, 0, 0, 0) ++ S.2.1, S.2.2))
    (k2 : ∀ L' : List zI, zref 2 S.1 a (0, 0, 0, 0) = some L' → zNx rul D cy ad A nL p l ev R s m args below meth c cells slots Q S.1.length e (pc + 3) lc st h (L', zfact 2 a (0, 0, 0, 0) ++ S.2.1, S.2.2))
    (k4 : ∀ L' : List zI, zref 4 S.1 a (0, 0, 0, 0) = some L' → zNx rul D cy ad A nL p l ev R s m args below meth c cells slots Q S.1.length e (pc + 3) lc st h (L', zfact 4 a (0, 0, 0, 0) ++ S.2.1, S.2.2)) : W p l ev R s m args below meth c H locs cells slots Q (F0 m pc ls (zst e ad (a :: st))) := by
  show W p l ev R s m args below meth c H locs cells slots Q (F0 m pc ls (zval e ad a :: zst e ad st))
  rw [zval_0 ha]
  have qa := zin_ok hi.1.1 ha2
  have qb : -2147483648 ≤ (0 : Int) ∧ (0 : Int) ≤ 2147483647 := by decide
  have wa := zin_wf ha2
  have wb : zwf S.1.length (0, 0, 0, 0) := Or.inl rfl
  have hj := zI_tl hi
  have z0 : zv e (0, 0, 0, 0) = 0 := zv_c e 0
  have eq0 : Int32.ofInt (zv e a) = 0 ↔ zv e a = 0 := by rw [zi0]; exact zc_eq qa qb
  refine lv_if_eq hx hb hd ht (fun hc => zk_br hj wa wb (show zrel 0 _ _ from by show zv e a = zv e (0, 0, 0, 0); rw [z0]; exact eq0.mp hc) kt) (fun hc => ?_)
  have hne : ¬ zv e a = 0 := fun q => hc (eq0.mpr q)
  by_cases hlt : zv e a < 0
  · exact zk_br hj wa wb (show zrel 2 _ _ from by show zv e a < zv e (0, 0, 0, 0); rw [z0]; exact hlt) k2
  · exact zk_br hj wa wb (show zrel 4 _ _ from by show zv e (0, 0, 0, 0) < zv e a; rw [z0]; omega) k4
end ZW
