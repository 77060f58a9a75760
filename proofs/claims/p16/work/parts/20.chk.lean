/-! ===== measures ===== -/
def zlc (e : Nat → Int) : List (Nat × Int) → Int
  | [] => 0
  | q :: l => q.2 * e q.1 + zlc e l
def zins (v : Nat) (k : Int) : List (Nat × Int) → List (Nat × Int)
  | [] => [(v, k)]
  | q :: l => if q.1 = v then (v, q.2 + k) :: l else q :: zins v k l
theorem zlc_ins (e : Nat → Int) (v : Nat) (k : Int) : ∀ l : List (Nat × Int), zlc e (zins v k l) = zlc e l + k * e v
  | [] => by simp [zins, zlc]
  | q :: l => by
    unfold zins
    by_cases h : q.1 = v
    · rw [if_pos h]
      show (q.2 + k) * e v + zlc e l = q.2 * e q.1 + zlc e l + k * e v
      rw [h, Int.add_mul]
      omega
    · rw [if_neg h]
      show q.2 * e q.1 + zlc e (zins v k l) = q.2 * e q.1 + zlc e l + k * e v
      rw [zlc_ins e v k l]
      omega
def zubd (L : List zI) : List (Nat × Int) → Option Int
  | [] => some 0
  | q :: l => match zubd L l with
    | none => none
    | some r => if q.2 = 0 then some r else match L[q.1]? with
      | none => none
      | some i => if 0 < q.2 then some (q.2 * i.2 + r) else some (q.2 * i.1 + r)
theorem zubd_ok {e : Nat → Int} {L : List zI} (h : zS1 e L) : ∀ {l : List (Nat × Int)} {u : Int}, zubd L l = some u → zlc e l ≤ u
  | [], u, hu => by cases hu; exact Int.le_refl _
  | q :: l, u, hu => by
    unfold zubd at hu
    cases hr : zubd L l with
    | none => rw [hr] at hu; cases hu
    | some r =>
      rw [hr] at hu
      have ih := zubd_ok h hr
      show q.2 * e q.1 + zlc e l ≤ u
      by_cases h0 : q.2 = 0
      · simp only [if_pos h0] at hu
        cases hu
        rw [h0]
        omega
      · simp only [if_neg h0] at hu
        cases hi : L[q.1]? with
        | none => rw [hi] at hu; cases hu
        | some i =>
          rw [hi] at hu
          obtain ⟨b1, b2⟩ := h _ _ hi
          by_cases hp : 0 < q.2
          · simp only [if_pos hp] at hu
            cases hu
            have := Int.mul_le_mul_of_nonneg_left b2 (Int.le_of_lt hp)
            omega
          · simp only [if_neg hp] at hu
            cases hu
            have := Int.mul_le_mul_of_nonpos_left (a := q.2) (by omega) b1
            omega
/-- a measure: a sum of numbers, and a constant -/
abbrev zM : Type := List (Int × zA) × Int
def zmu (e : Nat → Int) : List (Int × zA) → Int
  | [] => 0
  | q :: l => q.1 * zv e q.2 + zmu e l
/-- s * its variables -/
def zmv (s : Int) : List (Int × zA) → List (Nat × Int) → List (Nat × Int)
  | [], l => l
  | q :: r, l => zins q.2.2.2.1 (s * q.1 * q.2.2.1) (zmv s r l)
def zmc0 (s : Int) : List (Int × zA) → Int
  | [] => 0
  | q :: r => s * q.1 * q.2.2.2.2 + zmc0 s r
theorem zmv_ok (e : Nat → Int) (s : Int) : ∀ (T : List (Int × zA)) (l : List (Nat × Int)), zlc e (zmv s T l) + zmc0 s T = zlc e l + s * zmu e T
  | [], l => by simp [zmv, zmc0, zmu]
  | q :: r, l => by
    unfold zmv zmc0 zmu
    rw [zlc_ins]
    have ih := zmv_ok e s r l
    unfold zv
    rw [Int.mul_add s, ← Int.mul_assoc, Int.mul_add (s * q.1), ← Int.mul_assoc]
    omega
/-- the measure m (its numbers by th) is below m0 -/
def zless (L : List zI) (th : Nat → zA) (m m0 : zM) : Bool := match zubd L (zmv 1 (m.1.map fun q => (q.1, zsb th q.2)) (zmv (-1) m0.1 [])) with
  | some u => decide (u + zmc0 1 (m.1.map fun q => (q.1, zsb th q.2)) + zmc0 (-1) m0.1 + m.2 < m0.2)
  | none => false
theorem zmu_sb (th : Nat → zA) (e : Nat → Int) : ∀ T : List (Int × zA), zmu e (T.map fun q => (q.1, zsb th q.2)) = zmu (zec th e) T
  | [] => rfl
  | q :: r => by
    show q.1 * zv e (zsb th q.2) + zmu e (r.map fun q => (q.1, zsb th q.2)) = q.1 * zv (zec th e) q.2 + zmu (zec th e) r
    rw [zsb_v, zmu_sb th e r]
theorem zless_ok {e : Nat → Int} {L : List zI} {th : Nat → zA} {m m0 : zM} (h : zS1 e L) (hl : zless L th m m0 = true) : zmu (zec th e) m.1 + m.2 < zmu e m0.1 + m0.2 := by
  unfold zless at hl
  cases hu : zubd L (zmv 1 (m.1.map fun q => (q.1, zsb th q.2)) (zmv (-1) m0.1 [])) with
  | none => rw [hu] at hl; cases hl
  | some u =>
    rw [hu] at hl
    have h1 := zubd_ok h hu
    have h2 := of_decide_eq_true hl
    have h3 := zmv_ok e 1 (m.1.map fun q => (q.1, zsb th q.2)) (zmv (-1) m0.1 [])
    have h4 := zmv_ok e (-1) m0.1 []
    have h5 : zlc e ([] : List (Nat × Int)) = 0 := rfl
    rw [zmu_sb] at h3
    rw [Int.one_mul] at h3
    have h6 : (-1 : Int) * zmu e m0.1 = - zmu e m0.1 := by omega
    rw [h6] at h4
    omega
/-- never below 0 -/
def znn (I : List zI) (m : zM) : Bool := match zubd I (zmv (-1) m.1 []) with
  | some u => decide (u + zmc0 (-1) m.1 ≤ m.2)
  | none => false
theorem znn_ok {e : Nat → Int} {I : List zI} {m : zM} (h : zS1 e I) (hn : znn I m = true) : 0 ≤ zmu e m.1 + m.2 := by
  unfold znn at hn
  cases hu : zubd I (zmv (-1) m.1 []) with
  | none => rw [hu] at hn; cases hn
  | some u =>
    rw [hu] at hn
    have h1 := zubd_ok h hu
    have h2 := of_decide_eq_true hn
    have h4 := zmv_ok e (-1) m.1 []
    have h5 : zlc e ([] : List (Nat × Int)) = 0 := rfl
    have h6 : (-1 : Int) * zmu e m.1 = - zmu e m.1 := by omega
    rw [h6] at h4
    omega
/-! ===== how a pattern's numbers are found ===== -/
def zfv (v : Nat) : List (zA × zA) → Option zA
  | [] => none
  | q :: l => if q.1.2.1 = 1 ∧ q.1.2.2.1 = v ∧ q.1.2.2.2 = 0 then some (0, q.2.2) else zfv v l
def zprs (lcT lc : zL) (stT st : List zA) (hT h : List zC) : List (zA × zA) := (lcT.filterMap fun q => (zget lc q.1).map fun a => (q.2, a)) ++ (stT.zip st ++ (hT.zip h).flatMap fun q => q.1.2.2.2.2.zip q.2.2.2.2.2)
def zthl (I : List zI) (ps : List (zA × zA)) : List zA := (List.range I.length).map fun v => match zfv v ps with
  | some a => a
  | none => (0, 0, 0, (I.getD v (0, 0)).1)
def ztf (T : List zA) : Nat → zA := fun v => T.getD v (0, 0, 0, 0)
/-! ===== facts across a head: what follows from a fact, and bounds out of facts ===== -/
def zimp (f q : zA × zA) : Bool := decide (f.1.2.1 = q.1.2.1 ∧ f.1.2.2.1 = q.1.2.2.1 ∧ f.2.2.1 = q.2.2.1 ∧ f.2.2.2.1 = q.2.2.2.1 ∧ q.2.2.2.2 - f.2.2.2.2 ≤ q.1.2.2.2 - f.1.2.2.2)
theorem zimp_ok {e : Nat → Int} {f q : zA × zA} (h : zimp f q = true) (hf : zv e f.2 ≤ zv e f.1) : zv e q.2 ≤ zv e q.1 := by
  obtain ⟨h1, h2, h3, h4, h5⟩ := of_decide_eq_true h
  unfold zv at hf ⊢
  rw [← h1, ← h2, ← h3, ← h4]
  omega
def zfcs (th : Nat → zA) (S : zS) (F : List (zA × zA)) : Bool := F.all (fun q => S.2.1.any (fun f => zimp f (zsb th q.1, zsb th q.2)))
theorem zfcs_ok {rul : Nat → List zI} {e : Nat → Int} {th : Nat → zA} {S : zS} {F : List (zA × zA)} (hs : zSat rul e S) (h : zfcs th S F = true) : ∀ q ∈ F, zv (zec th e) q.2 ≤ zv (zec th e) q.1 := by
  intro q hq
  obtain ⟨f, hf, hi⟩ := List.any_eq_true.mp (List.all_eq_true.mp h q hq)
  have := zimp_ok hi (hs.2.1 f hf).2.2
  rw [← zsb_v, ← zsb_v]
  exact this
def zprl (L : List zI) : List (zA × zA) → List zI
  | [] => L
  | f :: l => zprl (match zr2 L f.2 f.1 0 with
    | some L' => L'
    | none => L) l
def zprop (S : zS) : zS := (zprl S.1 S.2.1, S.2.1, S.2.2)
theorem zprl_ok {e : Nat → Int} : ∀ {F : List (zA × zA)} {L : List zI}, zS1 e L → (∀ q ∈ F, zv e q.2 ≤ zv e q.1) → zS1 e (zprl L F) ∧ (zprl L F).length = L.length
  | [], L, h, _ => ⟨h, rfl⟩
  | f :: l, L, h, hF => by
    obtain ⟨L', e1, h1, l1⟩ := zr2_ok (a := f.2) (b := f.1) (d := 0) h (by have := hF f List.mem_cons_self; omega)
    unfold zprl
    rw [e1]
    obtain ⟨h2, l2⟩ := zprl_ok (F := l) (L := L') h1 (fun q hq => hF q (List.mem_cons_of_mem _ hq))
    exact ⟨h2, l2.trans l1⟩
theorem zprop_ok {rul : Nat → List zI} {D : va_G} {cy : Nat → ClassId} {ad : Nat → Nat} {A : Nat → Prop} {nL : Nat} {s : State} {e : Nat → Int} {lc : zL} {st : List zA} {h : List zC} {S : zS} {ws : va_W} {H : Heap} {locs : List Loc} {ls : Array Slot} (hi : zInv rul D cy ad A nL s.heap e lc st h S ws H locs ls) : zInv rul D cy ad A nL s.heap e lc st h (zprop S) ws H locs ls := by
  obtain ⟨h1, l1⟩ := zprl_ok hi.1.1 (fun q hq => (hi.1.2.1 q hq).2.2)
  exact zI_S hi (zSat_ref hi.1 h1 l1) l1
