/-! ===== the law's walk, case by case ===== -/
/-- the law's end -/
def zlk : zK := fun r _ _ => decide (r = (0, (0, 0, 0, 1)))
def zstp1 (G : zCf) (rc : Nat → List zI) (i : Nat) (go : Bool) (t : zT) : Option (List zT) := match (if go then none else G.2.2.2.2.2 i t.1) with
  | some _ => none
  | none => match zopf (zopl i) t.1 with
    | none => none
    | some o => if o.1 = 32 then none else if o.1 = 33 then none else if o.1 = 36 then none else if o.1 = 50 ∨ o.1 = 51 then none else zsucc rc (G.1 i) (G.2.1 i) i t.1 o t.2.1 t.2.2.1 t.2.2.2.1 t.2.2.2.2
def zchT (G : zCf) (rc : Nat → List zI) (bd n i : Nat) (n0 : Option Nat) (mu : Option zM) (go : Bool) (nc ns : Nat) (k : zK) (t : zT) : Bool := zchk G rc bd n i n0 mu go t.1 t.2.1 t.2.2.1 t.2.2.2.1 t.2.2.2.2 nc ns k
theorem zstp1_ok {G : zCf} {rc : Nat → List zI} {bd n i nc ns : Nat} {n0 : Option Nat} {mu : Option zM} {go : Bool} {k : zK} {t : zT} {L : List zT} (h : zstp1 G rc i go t = some L) (hL : ∀ t' ∈ L, zchT G rc bd n i n0 mu false nc ns k t' = true) : zchT G rc bd (n + 1) i n0 mu go nc ns k t = true := by
  unfold zchT zchk
  unfold zstp1 at h
  split at h
  · cases h
  · rename_i hc
    rw [hc]
    simp only
    split at h
    · cases h
    · rename_i o ho
      rw [ho]
      simp only
      by_cases c1 : o.1 = 32
      · rw [if_pos c1] at h; cases h
      · rw [if_neg c1] at h ⊢
        by_cases c2 : o.1 = 33
        · rw [if_pos c2] at h; cases h
        · rw [if_neg c2] at h ⊢
          by_cases c3 : o.1 = 36
          · rw [if_pos c3] at h; cases h
          · rw [if_neg c3] at h ⊢
            by_cases c4 : o.1 = 50 ∨ o.1 = 51
            · rw [if_pos c4] at h; cases h
            · rw [if_neg c4] at h ⊢
              rw [h]
              exact List.all_eq_true.mpr hL
def zstpN (G : zCf) (rc : Nat → List zI) (i : Nat) : Nat → Bool → zT → Option (List zT)
  | 0, _, t => some [t]
  | m + 1, go, t => match zstp1 G rc i go t with
    | some [t'] => zstpN G rc i m false t'
    | some L => if m = 0 then some L else none
    | none => none
theorem zstpN_ok {G : zCf} {rc : Nat → List zI} {bd n i nc ns : Nat} {n0 : Option Nat} {mu : Option zM} {k : zK} : ∀ {m : Nat} {go : Bool} {t : zT} {L : List zT}, ¬ m = 0 → zstpN G rc i m go t = some L → (∀ t' ∈ L, zchT G rc bd n i n0 mu false nc ns k t' = true) → zchT G rc bd (n + m) i n0 mu go nc ns k t = true
  | 0, _, _, _, h0, _, _ => absurd rfl h0
  | 1, go, t, L, _, h, hL => by
    unfold zstpN at h
    cases hs : zstp1 G rc i go t with
    | none => rw [hs] at h; cases h
    | some L1 =>
      rw [hs] at h
      refine zstp1_ok hs ?_
      match L1, h with
      | [], h => intro t' ht; cases ht
      | [t1], h =>
        unfold zstpN at h
        cases h
        exact hL
      | a :: b :: r, h =>
        simp only [if_true] at h
        cases h
        exact hL
  | m + 2, go, t, L, _, h, hL => by
    unfold zstpN at h
    cases hs : zstp1 G rc i go t with
    | none => rw [hs] at h; cases h
    | some L1 =>
      rw [hs] at h
      refine zstp1_ok (n := n + (m + 1)) hs ?_
      match L1, h with
      | [], h => intro t' ht; cases ht
      | [t1], h =>
        intro t' ht
        rw [List.mem_singleton.mp ht]
        exact zstpN_ok (m := m + 1) (by omega) h hL
      | a :: b :: r, h => simp at h
def zL0 : zT := (23, zcu119_23.1, [], zcu119_23.2.1, (zcu119_23.2.2.1, zcu119_23.2.2.2.2.2.2, []))
def zL1 : List zT := (zstpN zG zRul 119 6 true zL0).getD []
def zLx : zT := zL1.getD 0 zL0
def zLy : zT := zL1.getD 1 zL0
def zL2 : List zT := (zstpN zG zRul 119 6 false zLy).getD []
theorem zL1_eq : (zstpN zG zRul 119 6 true zL0).isSome = true := by decide +kernel
theorem zL1_len : zL1.length = 2 := by decide +kernel
theorem zL2_eq : (zstpN zG zRul 119 6 false zLy).isSome = true := by decide +kernel
theorem zL2_len : zL2.length = 21 := by decide +kernel
theorem zLx_ok : zchT zG zRul 99 150 119 (some 0) (some zcu119_23.2.2.2.1) false 0 0 zlk zLx = true := by decide +kernel
