/-! ===== an instruction, a row: from the picture behind it to the picture ahead of it ===== -/
theorem zc_eq {x y : Int} (hx : -2147483648 ≤ x ∧ x ≤ 2147483647) (hy : -2147483648 ≤ y ∧ y ≤ 2147483647) : Int32.ofInt x = Int32.ofInt y ↔ x = y := by
  rw [← Int32.toInt_inj, z32_i hx, z32_i hy]
theorem zc_lt {x y : Int} (hx : -2147483648 ≤ x ∧ x ≤ 2147483647) (hy : -2147483648 ≤ y ∧ y ≤ 2147483647) : Int32.ofInt x < Int32.ofInt y ↔ x < y := by
  rw [Int32.lt_iff_toInt_lt, z32_i hx, z32_i hy]
theorem zc_le {x y : Int} (hx : -2147483648 ≤ x ∧ x ≤ 2147483647) (hy : -2147483648 ≤ y ∧ y ≤ 2147483647) : Int32.ofInt x ≤ Int32.ofInt y ↔ x ≤ y := by
  rw [Int32.le_iff_toInt_le, z32_i hx, z32_i hy]
theorem zc_in {z : Int} {n : Nat} (h0 : 0 ≤ z) (h1 : z < n) (hn : n < 2 ^ 31) : vp_in (Int32.ofInt z) n ∧ (Int32.ofInt z).toNatClampNeg = z.toNat := by
  have h2 : (Int32.ofInt z).toInt = z := z32_i ⟨by omega, by omega⟩
  refine ⟨vp_in_iff.mpr (by rw [h2]; exact ⟨h0, h1⟩), ?_⟩
  rw [← Int32.toNat_toInt, h2]
def zrd (r : List zI) (a : zA) : zI := match r[(a.2.2.2 % (r.length : Int)).toNat]? with
  | some i => if a.2.1 % (r.length : Int) = 0 then i else zfull
  | none => zfull
theorem zidx {k v c : Int} {n j : Nat} (h : (j : Int) = k * v + c) (hk : k % (n : Int) = 0) : j % n = (c % (n : Int)).toNat := by
  have h1 : ((j % n : Nat) : Int) = c % (n : Int) := by
    rw [Int.natCast_emod, h]
    obtain ⟨q, hq⟩ := Int.dvd_of_emod_eq_zero hk
    rw [hq, Int.mul_assoc, Int.add_comm, Int.add_mul_emod_self_left]
  rw [← h1]
  rfl
theorem zrd_ok {e : Nat → Int} {r : List zI} {a : zA} {j : Nat} {x : Int32} (hj : (j : Int) = zv e a) (h : zok r j x.toInt) : (zrd r a).1 ≤ x.toInt ∧ x.toInt ≤ (zrd r a).2 := by
  unfold zrd
  cases hr : r[(a.2.2.2 % (r.length : Int)).toNat]? with
  | none => exact zi_rng x
  | some i =>
    simp only
    by_cases c : a.2.1 % (r.length : Int) = 0
    · rw [if_pos c]
      obtain ⟨i2, h1, h2⟩ := h
      rw [zidx hj c] at h1
      cases h1.symm.trans hr
      exact h2
    · rw [if_neg c]
      exact zi_rng x
def zwr (S : zS) (rid : Nat) (r : List zI) (a b : zA) : Bool :=
  (match r[(a.2.2.2 % (r.length : Int)).toNat]? with
    | some i => decide (a.2.1 % (r.length : Int) = 0) && zin S.1 b i.1 i.2 && z32 S.1 b
    | none => false) || (decide (b.1 = 0 ∧ b.2.1 = 1 ∧ b.2.2.2 = 0) && z32 S.1 b && decide ((b.2.2.1, rid, a) ∈ S.2.2))
theorem zwr_ok {rul : Nat → List zI} {e : Nat → Int} {S : zS} {rid : Nat} {a b : zA} {j : Nat} (hs : zSat rul e S) (hj : (j : Int) = zv e a) (h : zwr S rid (rul rid) a b = true) : zok (rul rid) j (Int32.ofInt (zv e b)).toInt := by
  unfold zwr at h
  rcases Bool.or_eq_true _ _ ▸ h with h | h
  · cases hr : (rul rid)[(a.2.2.2 % ((rul rid).length : Int)).toNat]? with
    | none => rw [hr] at h; cases h
    | some i =>
      rw [hr] at h
      simp only [Bool.and_eq_true, decide_eq_true_eq] at h
      obtain ⟨⟨h1, h2⟩, h3⟩ := h
      rw [z32_i (zin_ok hs.1 h3)]
      exact ⟨i, by rw [zidx hj h1]; exact hr, zin_ok hs.1 h2⟩
  · simp only [Bool.and_eq_true, decide_eq_true_eq] at h
    obtain ⟨⟨⟨-, h1, h2⟩, h3⟩, h4⟩ := h
    obtain ⟨-, -, j2, q1, q2⟩ := hs.2.2 _ h4
    have hb : zv e b = e b.2.2.1 := by unfold zv; rw [h1, h2]; omega
    rw [z32_i (zin_ok hs.1 h3), hb]
    have q1 : zv e a = (j2 : Int) := q1
    have : j = j2 := by omega
    rw [this]
    exact q2
section ZW
variable {rul : Nat → List zI} {D : va_G} {cy : Nat → ClassId} {ad : Nat → Nat} {A : Nat → Prop} {nL : Nat} {e : Nat → Int} {lc : zL} {st : List zA} {h : List zC} {S : zS} {ws : va_W} {H : Heap} {locs : List Loc} {ls : Array Slot}
variable {p : Program} {l : Launch} {ev : Env} {R : Room} {s : State} {m : MethodId} {args : Array Value} {below : List Frame} {meth : Method} {c : Code} {cells slots : Nat} {Q : State → Prop} {cc : ByteArray} {pc : Nat} {a b : zA}
theorem zI_st {st' : List zA} (hi : zInv rul D cy ad A nL s.heap e lc st h S ws H locs ls) (h3 : ∀ a ∈ st', zwf S.1.length a) : zInv rul D cy ad A nL s.heap e lc st' h S ws H locs ls := ⟨hi.1, hi.2.1, h3, hi.2.2.2⟩
theorem zI_tl (hi : zInv rul D cy ad A nL s.heap e lc (a :: st) h S ws H locs ls) : zInv rul D cy ad A nL s.heap e lc st h S ws H locs ls := zI_st hi fun x hx => hi.2.2.1 x (List.mem_cons_of_mem _ hx)
theorem zI_hd (hi : zInv rul D cy ad A nL s.heap e lc (a :: st) h S ws H locs ls) : zwf S.1.length a := hi.2.2.1 a List.mem_cons_self
theorem zI_cons (hi : zInv rul D cy ad A nL s.heap e lc st h S ws H locs ls) (ha : zwf S.1.length a) : zInv rul D cy ad A nL s.heap e lc (a :: st) h S ws H locs ls := zI_st hi fun x hx => (List.mem_cons.mp hx).elim (fun q => by rw [q]; exact ha) (hi.2.2.1 x)
theorem zI_lc {lc' : zL} {ls' : Array Slot} (hi : zInv rul D cy ad A nL s.heap e lc st h S ws H locs ls) (h2 : ∀ q ∈ lc', zwf S.1.length q.2) (h9 : lv_has ls' nL (zlv e ad lc')) : zInv rul D cy ad A nL s.heap e lc' st h S ws H locs ls' := ⟨hi.1, h2, hi.2.2.1, hi.2.2.2.1, hi.2.2.2.2.1, hi.2.2.2.2.2.1, hi.2.2.2.2.2.2.1, hi.2.2.2.2.2.2.2.1, h9⟩
theorem zI_hp {h' : List zC} {ws' : va_W} {H' : Heap} {locs' : List Loc} (hi : zInv rul D cy ad A nL s.heap e lc st h S ws H locs ls) (h4 : ∀ c ∈ h', ∀ a ∈ c.2.2.2.2, zwf S.1.length a) (h5 : zHR rul cy e ad h' ws') (h6 : va_P D vwCl ws' H') (h7 : va_D A ws') (h8 : va_S A s.heap H' locs') : zInv rul D cy ad A nL s.heap e lc st h' S ws' H' locs' ls := ⟨hi.1, hi.2.1, hi.2.2.1, h4, h5, h6, h7, h8, hi.2.2.2.2.2.2.2.2⟩
theorem zI_S {S' : zS} (hi : zInv rul D cy ad A nL s.heap e lc st h S ws H locs ls) (hs : zSat rul e S') (hl : S'.1.length = S.1.length) : zInv rul D cy ad A nL s.heap e lc st h S' ws H locs ls := zInv_ext hi (zag_rf _ _) hs (Nat.le_of_eq hl.symm)
/-- on with one more number on the stack, that is there already -/
theorem zk_on {pc' : Nat} (hi : zInv rul D cy ad A nL s.heap e lc st h S ws H locs ls) (ha : zwf S.1.length a) (kk : zNx rul D cy ad A nL p l ev R s m args below meth c cells slots Q S.1.length e pc' lc (a :: st) h S) : W p l ev R s m args below meth c H locs cells slots Q (F0 m pc' ls (zval e ad a :: zst e ad st)) := kk e ws H locs ls (zag_rf _ _) (Nat.le_refl _) (zI_cons hi ha)
theorem zk_go {pc' : Nat} (hi : zInv rul D cy ad A nL s.heap e lc st h S ws H locs ls) (kk : zNx rul D cy ad A nL p l ev R s m args below meth c cells slots Q S.1.length e pc' lc st h S) : W p l ev R s m args below meth c H locs cells slots Q (F0 m pc' ls (zst e ad st)) := kk e ws H locs ls (zag_rf _ _) (Nat.le_refl _) hi
/-- on with a reckoned number -/
theorem zk_res {pc' : Nat} {r : zS × zA} {x : Int32} (hi : zInv rul D cy ad A nL s.heap e lc st h S ws H locs ls) (hr : zres rul e S r x) (kk : zNx rul D cy ad A nL p l ev R s m args below meth c cells slots Q S.1.length e pc' lc (r.2 :: st) h r.1) : W p l ev R s m args below meth c H locs cells slots Q (F0 m pc' ls (.int x :: zst e ad st)) := by
  obtain ⟨e', ag, sat, len, wf, t0, val⟩ := hr
  have hj := zInv_ext hi ag sat len
  have hk := kk e' ws H locs ls ag len (zI_cons hj wf)
  have e1 : zst e' ad (r.2 :: st) = Value.int x :: zst e ad st := by
    show zval e' ad r.2 :: zst e' ad st = _
    rw [zst_ag ag hi.2.2.1, zval_0 t0, val]
  rw [e1] at hk
  exact hk
theorem zk_iload2 (hx : p.tables.exec = Jvm.exec) (hb : c.code = cc) {j : Nat} (hi : zInv rul D cy ad A nL s.heap e lc st h S ws H locs ls) (hg : zget lc j = some a) (ht : a.1 = 0) (hd : decode cc pc = .ok (.iload j, 2))
    (kk : zNx rul D cy ad A nL p l ev R s m args below meth c cells slots Q S.1.length e (pc + 2) lc (a :: st) h S) : W p l ev R s m args below meth c H locs cells slots Q (F0 m pc ls (zst e ad st)) := by
  have hv := zls_get hi.2.2.2.2.2.2.2.2 hg
  rw [zval_0 ht] at hv
  refine lv_iload hx hb hd hv ?_
  rw [← zval_0 (ad := ad) ht]
  exact zk_on hi (hi.2.1 _ (zget_mem hg)) kk
theorem zk_aload (hx : p.tables.exec = Jvm.exec) (hb : c.code = cc) {j : Nat} (hi : zInv rul D cy ad A nL s.heap e lc st h S ws H locs ls) (hg : zget lc j = some a) (ht : a.1 = 2) (hd : ∃ k : Fin 4, (k : Nat) = j ∧ decode cc pc = .ok (.aload_n k, 1))
    (kk : zNx rul D cy ad A nL p l ev R s m args below meth c cells slots Q S.1.length e (pc + 1) lc (a :: st) h S) : W p l ev R s m args below meth c H locs cells slots Q (F0 m pc ls (zst e ad st)) := by
  obtain ⟨k, hk, hd⟩ := hd
  have hv := zls_get hi.2.2.2.2.2.2.2.2 hg
  rw [zval_2 ht] at hv
  refine lv_aload_n hx hb hd hk hv ?_
  rw [← zval_2 (e := e) (ad := ad) ht]
  exact zk_on hi (hi.2.1 _ (zget_mem hg)) kk
theorem zk_aload2 (hx : p.tables.exec = Jvm.exec) (hb : c.code = cc) {j : Nat} (hi : zInv rul D cy ad A nL s.heap e lc st h S ws H locs ls) (hg : zget lc j = some a) (ht : a.1 = 2) (hd : decode cc pc = .ok (.aload j, 2))
    (kk : zNx rul D cy ad A nL p l ev R s m args below meth c cells slots Q S.1.length e (pc + 2) lc (a :: st) h S) : W p l ev R s m args below meth c H locs cells slots Q (F0 m pc ls (zst e ad st)) := by
  have hv := zls_get hi.2.2.2.2.2.2.2.2 hg
  rw [zval_2 ht] at hv
  refine lv_aload hx hb hd hv ?_
  rw [← zval_2 (e := e) (ad := ad) ht]
  exact zk_on hi (hi.2.1 _ (zget_mem hg)) kk
theorem zk_istore (hx : p.tables.exec = Jvm.exec) (hb : c.code = cc) {j : Nat} (hi : zInv rul D cy ad A nL s.heap e lc (a :: st) h S ws H locs ls) (hj : j < nL) (ht : a.1 = 0) (hd : ∃ k : Fin 4, (k : Nat) = j ∧ decode cc pc = .ok (.istore_n k, 1))
    (kk : zNx rul D cy ad A nL p l ev R s m args below meth c cells slots Q S.1.length e (pc + 1) (zput lc j a) st h S) : W p l ev R s m args below meth c H locs cells slots Q (F0 m pc ls (zst e ad (a :: st))) := by
  obtain ⟨k, hk, hd⟩ := hd
  show W p l ev R s m args below meth c H locs cells slots Q (F0 m pc ls (zval e ad a :: zst e ad st))
  have hq := zlv_put e ad lc j a
  rw [zval_0 ht] at hq ⊢
  exact lv_istore_n hx hb hd hk hi.2.2.2.2.2.2.2.2 hj hq fun ls' hl' => kk e ws H locs ls' (zag_rf _ _) (Nat.le_refl _) (zI_lc (zI_tl hi) (zput_wf hi.2.1 (zI_hd hi)) hl')
theorem zk_istore2 (hx : p.tables.exec = Jvm.exec) (hb : c.code = cc) {j : Nat} (hi : zInv rul D cy ad A nL s.heap e lc (a :: st) h S ws H locs ls) (hj : j < nL) (ht : a.1 = 0) (hd : decode cc pc = .ok (.istore j, 2))
    (kk : zNx rul D cy ad A nL p l ev R s m args below meth c cells slots Q S.1.length e (pc + 2) (zput lc j a) st h S) : W p l ev R s m args below meth c H locs cells slots Q (F0 m pc ls (zst e ad (a :: st))) := by
  show W p l ev R s m args below meth c H locs cells slots Q (F0 m pc ls (zval e ad a :: zst e ad st))
  have hq := zlv_put e ad lc j a
  rw [zval_0 ht] at hq ⊢
  exact lv_istore hx hb hd hi.2.2.2.2.2.2.2.2 hj hq fun ls' hl' => kk e ws H locs ls' (zag_rf _ _) (Nat.le_refl _) (zI_lc (zI_tl hi) (zput_wf hi.2.1 (zI_hd hi)) hl')
theorem zk_astore (hx : p.tables.exec = Jvm.exec) (hb : c.code = cc) {j : Nat} (hi : zInv rul D cy ad A nL s.heap e lc (a :: st) h S ws H locs ls) (hj : j < nL) (ht : a.1 = 2) (hd : ∃ k : Fin 4, (k : Nat) = j ∧ decode cc pc = .ok (.astore_n k, 1))
    (kk : zNx rul D cy ad A nL p l ev R s m args below meth c cells slots Q S.1.length e (pc + 1) (zput lc j a) st h S) : W p l ev R s m args below meth c H locs cells slots Q (F0 m pc ls (zst e ad (a :: st))) := by
  obtain ⟨k, hk, hd⟩ := hd
  show W p l ev R s m args below meth c H locs cells slots Q (F0 m pc ls (zval e ad a :: zst e ad st))
  have hq := zlv_put e ad lc j a
  rw [zval_2 ht] at hq ⊢
  exact lv_astore_n hx hb hd hk hi.2.2.2.2.2.2.2.2 hj hq fun ls' hl' => kk e ws H locs ls' (zag_rf _ _) (Nat.le_refl _) (zI_lc (zI_tl hi) (zput_wf hi.2.1 (zI_hd hi)) hl')
theorem zk_astore2 (hx : p.tables.exec = Jvm.exec) (hb : c.code = cc) {j : Nat} (hi : zInv rul D cy ad A nL s.heap e lc (a :: st) h S ws H locs ls) (hj : j < nL) (ht : a.1 = 2) (hd : decode cc pc = .ok (.astore j, 2))
    (kk : zNx rul D cy ad A nL p l ev R s m args below meth c cells slots Q S.1.length e (pc + 2) (zput lc j a) st h S) : W p l ev R s m args below meth c H locs cells slots Q (F0 m pc ls (zst e ad (a :: st))) := by
  show W p l ev R s m args below meth c H locs cells slots Q (F0 m pc ls (zval e ad a :: zst e ad st))
  have hq := zlv_put e ad lc j a
  rw [zval_2 ht] at hq ⊢
  exact lv_astore hx hb hd hi.2.2.2.2.2.2.2.2 hj hq fun ls' hl' => kk e ws H locs ls' (zag_rf _ _) (Nat.le_refl _) (zI_lc (zI_tl hi) (zput_wf hi.2.1 (zI_hd hi)) hl')
theorem zv_c (e : Nat → Int) (n : Int) : zv e (0, 0, 0, n) = n := by unfold zv; simp
theorem zk_const {pc' : Nat} {n : Int} (hi : zInv rul D cy ad A nL s.heap e lc st h S ws H locs ls) (kk : zNx rul D cy ad A nL p l ev R s m args below meth c cells slots Q S.1.length e pc' lc ((0, 0, 0, n) :: st) h S) : W p l ev R s m args below meth c H locs cells slots Q (F0 m pc' ls (.int (Int32.ofInt n) :: zst e ad st)) := by
  have hk := zk_on (a := (0, 0, 0, n)) hi (Or.inl rfl) kk
  rw [zval_0 rfl, zv_c] at hk
  exact hk
theorem zk_iconst (hx : p.tables.exec = Jvm.exec) (hb : c.code = cc) {n : Int} (hi : zInv rul D cy ad A nL s.heap e lc st h S ws H locs ls) (hd : decode cc pc = .ok (.iconst n, 1))
    (kk : zNx rul D cy ad A nL p l ev R s m args below meth c cells slots Q S.1.length e (pc + 1) lc ((0, 0, 0, n) :: st) h S) : W p l ev R s m args below meth c H locs cells slots Q (F0 m pc ls (zst e ad st)) := lv_iconst hx hb hd rfl (zk_const hi kk)
theorem zk_bipush (hx : p.tables.exec = Jvm.exec) (hb : c.code = cc) {n : Int} (hi : zInv rul D cy ad A nL s.heap e lc st h S ws H locs ls) (hd : decode cc pc = .ok (.bipush n, 2)) (hn : (Int8.ofInt n).toInt32 = Int32.ofInt n)
    (kk : zNx rul D cy ad A nL p l ev R s m args below meth c cells slots Q S.1.length e (pc + 2) lc ((0, 0, 0, n) :: st) h S) : W p l ev R s m args below meth c H locs cells slots Q (F0 m pc ls (zst e ad st)) := lv_bipush hx hb hd hn (zk_const hi kk)
theorem zk_sipush (hx : p.tables.exec = Jvm.exec) (hb : c.code = cc) {n : Int} (hi : zInv rul D cy ad A nL s.heap e lc st h S ws H locs ls) (hd : decode cc pc = .ok (.sipush n, 3)) (hn : (Int16.ofInt n).toInt32 = Int32.ofInt n)
    (kk : zNx rul D cy ad A nL p l ev R s m args below meth c cells slots Q S.1.length e (pc + 3) lc ((0, 0, 0, n) :: st) h S) : W p l ev R s m args below meth c H locs cells slots Q (F0 m pc ls (zst e ad st)) := lv_sipush hx hb hd hn (zk_const hi kk)
theorem zst2 {ad : Nat → Nat} (ha : a.1 = 0) (hb : b.1 = 0) : zst e ad (b :: a :: st) = Value.int (Int32.ofInt (zv e b)) :: Value.int (Int32.ofInt (zv e a)) :: zst e ad st := by
  show zval e ad b :: zval e ad a :: zst e ad st = _
  rw [zval_0 ha, zval_0 hb]
theorem zk_iadd (hx : p.tables.exec = Jvm.exec) (hb : c.code = cc) (hi : zInv rul D cy ad A nL s.heap e lc (b :: a :: st) h S ws H locs ls) (ha : a.1 = 0) (hb0 : b.1 = 0) (hd : decode cc pc = .ok (.iadd, 1))
    (kk : zNx rul D cy ad A nL p l ev R s m args below meth c cells slots Q S.1.length e (pc + 1) lc ((zadd S a b).2 :: st) h (zadd S a b).1) : W p l ev R s m args below meth c H locs cells slots Q (F0 m pc ls (zst e ad (b :: a :: st))) := by
  rw [zst2 ha hb0]
  exact lv_iadd hx hb hd (zk_res (zI_tl (zI_tl hi)) (zadd_ok hi.1) kk)
theorem zk_isub (hx : p.tables.exec = Jvm.exec) (hb : c.code = cc) (hi : zInv rul D cy ad A nL s.heap e lc (b :: a :: st) h S ws H locs ls) (ha : a.1 = 0) (hb0 : b.1 = 0) (hd : decode cc pc = .ok (.isub, 1))
    (kk : zNx rul D cy ad A nL p l ev R s m args below meth c cells slots Q S.1.length e (pc + 1) lc ((zsub S a b).2 :: st) h (zsub S a b).1) : W p l ev R s m args below meth c H locs cells slots Q (F0 m pc ls (zst e ad (b :: a :: st))) := by
  rw [zst2 ha hb0]
  exact lv_isub hx hb hd (zk_res (zI_tl (zI_tl hi)) (zsub_ok hi.1) kk)
theorem zk_imul (hx : p.tables.exec = Jvm.exec) (hb : c.code = cc) (hi : zInv rul D cy ad A nL s.heap e lc (b :: a :: st) h S ws H locs ls) (ha : a.1 = 0) (hb0 : b.1 = 0) (hd : decode cc pc = .ok (.imul, 1))
    (kk : zNx rul D cy ad A nL p l ev R s m args below meth c cells slots Q S.1.length e (pc + 1) lc ((zmul S a b).2 :: st) h (zmul S a b).1) : W p l ev R s m args below meth c H locs cells slots Q (F0 m pc ls (zst e ad (b :: a :: st))) := by
  rw [zst2 ha hb0]
  exact lv_imul hx hb hd (zk_res (zI_tl (zI_tl hi)) (zmul_ok hi.1) kk)
theorem zk_irem (hx : p.tables.exec = Jvm.exec) (hb : c.code = cc) {r : zS × zA} (hi : zInv rul D cy ad A nL s.heap e lc (b :: a :: st) h S ws H locs ls) (ha : a.1 = 0) (hb0 : b.1 = 0) (hr : zrem S a b = some r) (hd : decode cc pc = .ok (.irem, 1))
    (kk : zNx rul D cy ad A nL p l ev R s m args below meth c cells slots Q S.1.length e (pc + 1) lc (r.2 :: st) h r.1) : W p l ev R s m args below meth c H locs cells slots Q (F0 m pc ls (zst e ad (b :: a :: st))) := by
  rw [zst2 ha hb0]
  obtain ⟨h0, h1⟩ := zrem_ok hi.1 hr
  exact lv_irem hx hb hd h0 (zk_res (zI_tl (zI_tl hi)) h1 kk)
theorem zk_iinc (hx : p.tables.exec = Jvm.exec) (hb : c.code = cc) {j : Nat} {n : Int} (hi : zInv rul D cy ad A nL s.heap e lc st h S ws H locs ls) (hg : zget lc j = some a) (ht : a.1 = 0) (hj : j < nL) (hd : decode cc pc = .ok (.iinc j n, 3))
    (kk : zNx rul D cy ad A nL p l ev R s m args below meth c cells slots Q S.1.length e (pc + 3) (zput lc j (zadd S a (0, 0, 0, n)).2) st h (zadd S a (0, 0, 0, n)).1) : W p l ev R s m args below meth c H locs cells slots Q (F0 m pc ls (zst e ad st)) := by
  obtain ⟨e', ag, sat, len, wf, t0, val⟩ := zadd_ok (a := a) (b := (0, 0, 0, n)) hi.1
  rw [zv_c] at val
  obtain ⟨k, hk⟩ := List.getElem?_of_mem (zlv_mem (e := e) (ad := ad) hg)
  rw [zval_0 ht] at hk
  have hq := zlv_put e ad lc j (zadd S a (0, 0, 0, n)).2
  have hji := zInv_ext hi ag sat len
  refine lv_iinc hx hb hd hi.2.2.2.2.2.2.2.2 hk rfl hj rfl fun ls' hl' => ?_
  have hl2 : lv_has ls' nL (zlv e' ad (zput lc j (zadd S a (0, 0, 0, n)).2)) := by
    have hq2 := zlv_put e' ad lc j (zadd S a (0, 0, 0, n)).2
    rw [zval_0 t0, val, zlv_ag ag hi.2.1] at hq2
    rw [← hq2]
    exact hl'
  have hk2 := kk e' ws H locs ls' ag len (zI_lc hji (zput_wf hji.2.1 wf) hl2)
  rw [zst_ag ag hi.2.2.1] at hk2
  exact hk2
theorem zk_goto (hx : p.tables.exec = Jvm.exec) (hb : c.code = cc) {off : Int} {tgt : Nat} (hi : zInv rul D cy ad A nL s.heap e lc st h S ws H locs ls) (ht : (pc : Int) + off = (tgt : Int)) (hd : decode cc pc = .ok (.goto off, 3))
    (kk : zNx rul D cy ad A nL p l ev R s m args below meth c cells slots Q S.1.length e tgt lc st h S) : W p l ev R s m args below meth c H locs cells slots Q (F0 m pc ls (zst e ad st)) := lv_goto hx hb hd ht (zk_go hi kk)
theorem zk_dup (hx : p.tables.exec = Jvm.exec) (hb : c.code = cc) (hi : zInv rul D cy ad A nL s.heap e lc (a :: st) h S ws H locs ls) (ht : ¬ a.1 = 1) (hd : decode cc pc = .ok (.dup, 1))
    (kk : zNx rul D cy ad A nL p l ev R s m args below meth c cells slots Q S.1.length e (pc + 1) lc (a :: a :: st) h S) : W p l ev R s m args below meth c H locs cells slots Q (F0 m pc ls (zst e ad (a :: st))) := lv_dup hx hb hd (zval_c1 e ad ht) (zk_on hi (zI_hd hi) kk)
theorem zk_dup2 (hx : p.tables.exec = Jvm.exec) (hb : c.code = cc) (hi : zInv rul D cy ad A nL s.heap e lc (b :: a :: st) h S ws H locs ls) (ha : ¬ a.1 = 1) (hb0 : ¬ b.1 = 1) (hd : decode cc pc = .ok (.dup2, 1))
    (kk : zNx rul D cy ad A nL p l ev R s m args below meth c cells slots Q S.1.length e (pc + 1) lc (b :: a :: b :: a :: st) h S) : W p l ev R s m args below meth c H locs cells slots Q (F0 m pc ls (zst e ad (b :: a :: st))) := lv_dup2_11 hx hb hd (zval_c1 e ad hb0) (zval_c1 e ad ha) (zk_go (zI_cons (zI_cons hi (zI_hd (zI_tl hi))) (zI_hd hi)) kk)
theorem zk_pop (hx : p.tables.exec = Jvm.exec) (hb : c.code = cc) (hi : zInv rul D cy ad A nL s.heap e lc (a :: st) h S ws H locs ls) (ht : ¬ a.1 = 1) (hd : decode cc pc = .ok (.pop, 1))
    (kk : zNx rul D cy ad A nL p l ev R s m args below meth c cells slots Q S.1.length e (pc + 1) lc st h S) : W p l ev R s m args below meth c H locs cells slots Q (F0 m pc ls (zst e ad (a :: st))) := lv_pop hx hb hd (zval_c1 e ad ht) (zk_go (zI_tl hi) kk)
/-- a comparison that holds: on with what it says -/
theorem zk_br {op : Nat} {tgt : Nat} (hi : zInv rul D cy ad A nL s.heap e lc st h S ws H locs ls) (ha : zwf S.1.length a) (hb0 : zwf S.1.length b) (hr : zrel op (zv e a) (zv e b))
    (kk : ∀ L' : List zI, zref op S.1 a b = some L' → zNx rul D cy ad A nL p l ev R s m args below meth c cells slots Q S.1.length e tgt lc st h (L', zfact op a b ++ S.2.1, S.2.2)) : W p l ev R s m args below meth c H locs cells slots Q (F0 m tgt ls (zst e ad st)) := by
  obtain ⟨L', e1, h1, l1⟩ := zref_ok op hi.1.1 hr
  have hs : zSat rul e (L', zfact op a b ++ S.2.1, S.2.2) := by
    have h2 := zSat_fact (F := zfact op a b) hi.1 (fun q hq => by
      obtain ⟨q1, q2⟩ := zfact_ok op hr q hq
      rcases q1 with q1 | q1
      · rw [q1] at q2 ⊢
        exact ⟨ha, hb0, q2⟩
      · rw [q1] at q2 ⊢
        exact ⟨hb0, ha, q2⟩)
    exact zSat_ref h2 h1 l1
  exact kk L' e1 e ws H locs ls (zag_rf _ _) (Nat.le_of_eq l1.symm) (zI_S hi hs l1)
end ZW
