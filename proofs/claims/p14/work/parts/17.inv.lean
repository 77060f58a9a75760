/-! ===== what a step asked for ===== -/
section ZV
variable {rul : Nat → List zI} {lc : zL} {st : List zA} {h : List zC} {S : zS} {L : List zT} {pc t len j : Nat}
theorem zs_ld_ok (hs : zs_ld t len j pc lc st h S = some L) : ∃ a, zget lc j = some a ∧ a.1 = t ∧ L = [(pc + len, lc, a :: st, h, S)] := by
  unfold zs_ld at hs
  cases hg : zget lc j with
  | none => rw [hg] at hs; cases hs
  | some a =>
    rw [hg] at hs
    by_cases c : a.1 = t
    · simp only [if_pos c] at hs
      exact ⟨a, rfl, c, (Option.some.inj hs).symm⟩
    · simp only [if_neg c] at hs
      cases hs
theorem zs_sto_ok (hs : zs_sto t len j pc lc st h S = some L) : ∃ a r, st = a :: r ∧ a.1 = t ∧ L = [(pc + len, zput lc j a, r, h, S)] := by
  cases st with
  | nil => cases hs
  | cons a r =>
    unfold zs_sto at hs
    by_cases c : a.1 = t
    · simp only [if_pos c] at hs
      exact ⟨a, r, rfl, c, (Option.some.inj hs).symm⟩
    · simp only [if_neg c] at hs
      cases hs
theorem zs_ar_ok {f : zS → zA → zA → zS × zA} (hs : zs_ar f pc lc st h S = some L) : ∃ a b r, st = b :: a :: r ∧ a.1 = 0 ∧ b.1 = 0 ∧ L = [(pc + 1, lc, (f S a b).2 :: r, h, (f S a b).1)] := by
  match st, hs with
  | [], hs => cases hs
  | [_], hs => cases hs
  | b :: a :: r, hs =>
    unfold zs_ar at hs
    by_cases c : a.1 = 0 ∧ b.1 = 0
    · simp only [if_pos c] at hs
      exact ⟨a, b, r, rfl, c.1, c.2, (Option.some.inj hs).symm⟩
    · simp only [if_neg c] at hs
      cases hs
theorem zs_rem_ok (hs : zs_rem pc lc st h S = some L) : ∃ (a : zA) (n : Int) (r : List zA), st = (0, 0, 0, n) :: a :: r ∧ a.1 = 0 ∧ 0 < n ∧ n ≤ 2147483647 ∧ z32 S.1 a = true ∧
    (∀ L' : List zI, zref 2 S.1 a (0, 0, 0, 0) = some L' → (pc + 1, lc, zvar (L', S.2.1, S.2.2) :: r, h, zpush (L', S.2.1, S.2.2) (1 - n, 0)) ∈ L) ∧ ∀ L' : List zI, zref 3 S.1 a (0, 0, 0, 0) = some L' → (pc + 1, lc, zvar (L', S.2.1, S.2.2) :: r, h, zpush (L', S.2.1, S.2.2) (0, n - 1)) ∈ L := by
  match st, hs with
  | [], hs => cases hs
  | [_], hs => cases hs
  | (b0, b1, b2, b3) :: a :: r, hs =>
    unfold zs_rem at hs
    by_cases c : a.1 = 0 ∧ b0 = 0 ∧ b1 = 0 ∧ b2 = 0 ∧ 0 < b3 ∧ b3 ≤ 2147483647 ∧ z32 S.1 a = true
    · simp only [if_pos c] at hs
      obtain ⟨c1, rfl, rfl, rfl, c2, c3, c4⟩ := c
      refine ⟨a, b3, r, rfl, c1, c2, c3, c4, fun L' hr => ?_, fun L' hr => ?_⟩
      · rw [← Option.some.inj hs, hr]
        exact List.mem_append_left _ (List.mem_singleton.mpr rfl)
      · rw [← Option.some.inj hs, hr]
        exact List.mem_append_right _ (List.mem_singleton.mpr rfl)
    · simp only [if_neg c] at hs
      cases hs
theorem zs_inc_ok {n : Int} (hs : zs_inc n j pc lc st h S = some L) : ∃ a, zget lc j = some a ∧ a.1 = 0 ∧ L = [(pc + 3, zput lc j (zadd S a (0, 0, 0, n)).2, st, h, (zadd S a (0, 0, 0, n)).1)] := by
  unfold zs_inc at hs
  cases hg : zget lc j with
  | none => rw [hg] at hs; cases hs
  | some a =>
    rw [hg] at hs
    by_cases c : a.1 = 0
    · simp only [if_pos c] at hs
      exact ⟨a, rfl, c, (Option.some.inj hs).symm⟩
    · simp only [if_neg c] at hs
      cases hs
theorem zs_if_ok {op : Nat} (hs : zs_if op t pc lc st h S = some L) : ∃ a r, st = a :: r ∧ a.1 = 0 ∧ z32 S.1 a = true ∧ L = zbr op S a (0, 0, 0, 0) t lc r h ++ zbr (znot op) S a (0, 0, 0, 0) (pc + 3) lc r h := by
  cases st with
  | nil => cases hs
  | cons a r =>
    unfold zs_if at hs
    by_cases c : a.1 = 0 ∧ z32 S.1 a = true
    · simp only [if_pos c] at hs
      exact ⟨a, r, rfl, c.1, c.2, (Option.some.inj hs).symm⟩
    · simp only [if_neg c] at hs
      cases hs
theorem zs_icmp_ok {op : Nat} (hs : zs_icmp op t pc lc st h S = some L) : ∃ a b r, st = b :: a :: r ∧ a.1 = 0 ∧ b.1 = 0 ∧ z32 S.1 a = true ∧ z32 S.1 b = true ∧ L = zbr op S a b t lc r h ++ zbr (znot op) S a b (pc + 3) lc r h := by
  match st, hs with
  | [], hs => cases hs
  | [_], hs => cases hs
  | b :: a :: r, hs =>
    unfold zs_icmp at hs
    by_cases c : a.1 = 0 ∧ b.1 = 0 ∧ z32 S.1 a = true ∧ z32 S.1 b = true
    · simp only [if_pos c] at hs
      exact ⟨a, b, r, rfl, c.1, c.2.1, c.2.2.1, c.2.2.2, (Option.some.inj hs).symm⟩
    · simp only [if_neg c] at hs
      cases hs
theorem zbr_mem {op : Nat} {a b : zA} {L' : List zI} (hr : zref op S.1 a b = some L') : (t, lc, st, h, (L', zfact op a b ++ S.2.1, S.2.2)) ∈ zbr op S a b t lc st h := by
  unfold zbr
  rw [hr]
  exact List.mem_singleton.mpr rfl
theorem zsw_mem {op : Nat} {a b : zA} {L' : List zI} (hr : zref op S.1 a b = some L') : (t, lc, st, h, (L', S.2.1, S.2.2)) ∈ zsw op S a b t lc st h := by
  unfold zsw
  rw [hr]
  exact List.mem_singleton.mpr rfl
theorem zeach_mem {b : zA} {n k : Nat} {g : Nat → List zI → List zT} {L' : List zI} {x : zT} (hk : k < n) (hr : zref 0 S.1 b (0, 0, 0, (k : Int)) = some L') (hx : x ∈ g k L') : x ∈ zeach S b n g := by
  unfold zeach
  refine List.mem_flatMap.mpr ⟨k, List.mem_range.mpr hk, ?_⟩
  rw [hr]
  exact hx
theorem zs_get_ok {ci k : Nat} (hs : zs_get ci k pc lc st h S = some L) : ∃ (a : zA) (r : List zA) (n rr : Nat) (fs : List zA) (b : zA), st = a :: r ∧ a.1 = 2 ∧ h[a.2.2.1]? = some (0, ci, n, rr, fs) ∧ fs[k]? = some b ∧ L = [(pc + 3, lc, b :: r, h, S)] := by
  cases st with
  | nil => cases hs
  | cons a r =>
    unfold zs_get at hs
    by_cases c : a.1 = 2
    · simp only [if_pos c] at hs
      cases hh : h[a.2.2.1]? with
      | none => rw [hh] at hs; cases hs
      | some q =>
        rw [hh] at hs
        obtain ⟨q0, q1, q2, q3, q4⟩ := q
        by_cases c2 : q0 = 0 ∧ q1 = ci
        · obtain ⟨rfl, rfl⟩ := c2
          simp only [and_self, if_true] at hs
          cases hb : q4[k]? with
          | none => rw [hb] at hs; cases hs
          | some b =>
            rw [hb] at hs
            exact ⟨a, r, q2, q3, q4, b, rfl, c, hh, hb, (Option.some.inj hs).symm⟩
        · simp only [if_neg c2] at hs
          cases hs
    · simp only [if_neg c] at hs
      cases hs
theorem zs_put_ok {ci k : Nat} {z : Bool} (hs : zs_put ci k pc z lc st h S = some L) : ∃ (a b : zA) (r : List zA) (n rr : Nat) (fs : List zA), st = b :: a :: r ∧ a.1 = 2 ∧ b.1 = 0 ∧ h[a.2.2.1]? = some (0, ci, n, rr, fs) ∧ k < fs.length ∧ (z = false ∨ zin S.1 b 0 1 = true) ∧ L = [(pc + 3, lc, r, h.set a.2.2.1 (0, ci, n, rr, fs.set k b), S)] := by
  match st, hs with
  | [], hs => cases hs
  | [_], hs => cases hs
  | b :: a :: r, hs =>
    unfold zs_put at hs
    by_cases c : a.1 = 2 ∧ b.1 = 0
    · simp only [if_pos c] at hs
      cases hh : h[a.2.2.1]? with
      | none => rw [hh] at hs; cases hs
      | some q =>
        rw [hh] at hs
        obtain ⟨q0, q1, q2, q3, q4⟩ := q
        simp only at hs
        by_cases c2 : q0 = 0 ∧ q1 = ci ∧ k < q4.length ∧ (z = false ∨ zin S.1 b 0 1 = true)
        · rw [if_pos c2] at hs
          obtain ⟨rfl, rfl, c3, c4⟩ := c2
          exact ⟨a, b, r, q2, q3, q4, rfl, c.1, c.2, hh, c3, c4, (Option.some.inj hs).symm⟩
        · rw [if_neg c2] at hs
          cases hs
    · simp only [if_neg c] at hs
      cases hs
theorem zall {fs : List zA} {t : Nat} (h : fs.all (fun d => d.1 == t) = true) : ∀ d ∈ fs, d.1 = t := fun d hd => by
  have := List.all_eq_true.mp h d hd
  simpa using this
theorem zs_scr_ok {i : Nat} {b : zA} {r : List zA} (hs : zs_scr i b pc lc r h S = some L) : i = 119 ∧ zsix S b = true ∧
    (∀ v : Nat, zsfd b S.2.2 = some v → L = [(pc + 1, lc, (0, 1, v, 0) :: r, h, S)]) ∧ (zsfd b S.2.2 = none → L = [(pc + 1, lc, zvar S :: r, h, ((zpush S zfull).1, (zpush S zfull).2.1, (S.1.length, 100, b) :: (zpush S zfull).2.2))]) := by
  unfold zs_scr at hs
  by_cases c : i = 119 ∧ zsix S b = true
  · rw [if_pos c] at hs
    refine ⟨c.1, c.2, fun v hv => ?_, fun hv => ?_⟩
    · rw [hv] at hs; exact (Option.some.inj hs).symm
    · rw [hv] at hs; exact (Option.some.inj hs).symm
  · rw [if_neg c] at hs
    cases hs
theorem zs_iald_ok {i : Nat} (hs : zs_iald rul i pc lc st h S = some L) : ∃ (a b : zA) (r : List zA), st = b :: a :: r ∧ a.1 = 2 ∧ b.1 = 0 ∧ ((a = (2, 0, 43, 0) ∧ zs_scr i b pc lc r h S = some L) ∨ ∃ (n rr : Nat) (fs : List zA), rr < 100 ∧ n < 2 ^ 31 ∧ zin S.1 b 0 ((n : Int) - 1) = true ∧
    ((h[a.2.2.1]? = some (2, 0, n, rr, fs) ∧ L = [(pc + 1, lc, zvar S :: r, h.set a.2.2.1 (2, 0, n, rr, zrp rr b (zvar S) fs), ((zpush S (zrb rr S fs b (zrd (rul rr) b))).1, (zpush S (zrb rr S fs b (zrd (rul rr) b))).2.1, (S.1.length, rr, b) :: (zpush S (zrb rr S fs b (zrd (rul rr) b))).2.2))]) ∨
     (h[a.2.2.1]? = some (1, 0, n, rr, fs) ∧ (∀ d ∈ fs, d.1 = 0) ∧ ∀ (j : Nat) (L' : List zI) (d : zA), j < n → zref 0 S.1 b (0, 0, 0, (j : Int)) = some L' → fs[j]? = some d → (pc + 1, lc, d :: r, h, (L', S.2.1, S.2.2)) ∈ L))) := by
  match st, hs with
  | [], hs => cases hs
  | [_], hs => cases hs
  | b :: a :: r, hs =>
    unfold zs_iald at hs
    by_cases c : a.1 = 2 ∧ b.1 = 0
    · simp only [if_pos c] at hs
      refine ⟨a, b, r, rfl, c.1, c.2, ?_⟩
      cases hh : h[a.2.2.1]? with
      | none =>
        rw [hh] at hs
        simp only at hs
        by_cases ca : a = (2, 0, 43, 0)
        · rw [if_pos ca] at hs
          exact Or.inl ⟨ca, hs⟩
        · rw [if_neg ca] at hs
          cases hs
      | some q =>
        refine Or.inr ?_
        rw [hh] at hs
        obtain ⟨q0, q1, q2, q3, q4⟩ := q
        simp only at hs
        by_cases c2 : q3 < 100 ∧ q1 = 0 ∧ q2 < 2147483648 ∧ zin S.1 b 0 ((q2 : Int) - 1) = true
        · rw [if_pos c2] at hs
          obtain ⟨cr, rfl, c3, c4⟩ := c2
          by_cases c5 : q0 = 2
          · rw [if_pos c5] at hs
            subst c5
            exact ⟨q2, q3, q4, cr, c3, c4, Or.inl ⟨rfl, (Option.some.inj hs).symm⟩⟩
          · rw [if_neg c5] at hs
            by_cases c6 : q0 = 1 ∧ q4.all (fun d => d.1 == 0) = true
            · rw [if_pos c6] at hs
              obtain ⟨rfl, c7⟩ := c6
              refine ⟨q2, q3, q4, cr, c3, c4, Or.inr ⟨rfl, zall c7, fun j L' d hj hr hd => ?_⟩⟩
              rw [← Option.some.inj hs]
              exact zeach_mem hj hr (by rw [hd]; exact List.mem_singleton.mpr rfl)
            · rw [if_neg c6] at hs
              cases hs
        · rw [if_neg c2] at hs
          cases hs
    · simp only [if_neg c] at hs
      cases hs
theorem zs_iast_ok (hs : zs_iast rul pc lc st h S = some L) : ∃ (a b d : zA) (r : List zA) (n rr : Nat) (fs : List zA), st = d :: b :: a :: r ∧ a.1 = 2 ∧ b.1 = 0 ∧ d.1 = 0 ∧ rr < 100 ∧ n < 2 ^ 31 ∧ zin S.1 b 0 ((n : Int) - 1) = true ∧
    ((h[a.2.2.1]? = some (2, 0, n, rr, fs) ∧ zwr S rr (rul rr) b d = true ∧ ∃ fs' : List zA, zwp rr S b d fs = some fs' ∧ L = [(pc + 1, lc, r, h.set a.2.2.1 (2, 0, n, rr, fs'), S)]) ∨
     (h[a.2.2.1]? = some (1, 0, n, rr, fs) ∧ ∀ (j : Nat) (L' : List zI), j < n → zref 0 S.1 b (0, 0, 0, (j : Int)) = some L' → (pc + 1, lc, r, h.set a.2.2.1 (1, 0, n, rr, fs.set j d), (L', S.2.1, S.2.2)) ∈ L)) := by
  match st, hs with
  | [], hs => cases hs
  | [_], hs => cases hs
  | [_, _], hs => cases hs
  | d :: b :: a :: r, hs =>
    unfold zs_iast at hs
    by_cases c : a.1 = 2 ∧ b.1 = 0 ∧ d.1 = 0
    · simp only [if_pos c] at hs
      cases hh : h[a.2.2.1]? with
      | none => rw [hh] at hs; cases hs
      | some q =>
        rw [hh] at hs
        obtain ⟨q0, q1, q2, q3, q4⟩ := q
        simp only at hs
        by_cases c2 : q3 < 100 ∧ q1 = 0 ∧ q2 < 2147483648 ∧ zin S.1 b 0 ((q2 : Int) - 1) = true
        · rw [if_pos c2] at hs
          obtain ⟨cr, rfl, c3, c4⟩ := c2
          by_cases c5 : q0 = 2
          · rw [if_pos c5] at hs
            subst c5
            by_cases c8 : zwr S q3 (rul q3) b d = true
            · rw [if_pos c8] at hs
              cases hp : zwp q3 S b d q4 with
              | none => rw [hp] at hs; cases hs
              | some fs' =>
                rw [hp] at hs
                exact ⟨a, b, d, r, q2, q3, q4, rfl, c.1, c.2.1, c.2.2, cr, c3, c4, Or.inl ⟨hh, c8, fs', hp, (Option.some.inj hs).symm⟩⟩
            · rw [if_neg c8] at hs
              cases hs
          · rw [if_neg c5] at hs
            by_cases c6 : q0 = 1
            · rw [if_pos c6] at hs
              subst c6
              refine ⟨a, b, d, r, q2, q3, q4, rfl, c.1, c.2.1, c.2.2, cr, c3, c4, Or.inr ⟨hh, fun j L' hj hr => ?_⟩⟩
              rw [← Option.some.inj hs]
              exact zeach_mem hj hr (List.mem_singleton.mpr rfl)
            · rw [if_neg c6] at hs
              cases hs
        · rw [if_neg c2] at hs
          cases hs
    · simp only [if_neg c] at hs
      cases hs
theorem zs_alen_ok {i : Nat} (hs : zs_alen i pc lc st h S = some L) : ∃ r : List zA, st = (2, 0, 43, 0) :: r ∧ i = 119 ∧ L = [(pc + 1, lc, zvar S :: r, h, ((zpush S (0, 3072)).1, (zpush S (0, 3072)).2.1, (S.1.length, 101, (0, 0, 0, 0)) :: (zpush S (0, 3072)).2.2))] := by
  cases st with
  | nil => cases hs
  | cons a r =>
    unfold zs_alen at hs
    by_cases c : i = 119 ∧ a = (2, 0, 43, 0)
    · simp only [if_pos c] at hs
      obtain ⟨c1, rfl⟩ := c
      exact ⟨r, rfl, c1, (Option.some.inj hs).symm⟩
    · simp only [if_neg c] at hs
      cases hs
theorem zs_and_ok (hs : zs_and pc lc st h S = some L) : ∃ (a : zA) (r : List zA), st = (0, 0, 0, 31) :: a :: r ∧ a.1 = 0 ∧ L = [(pc + 1, lc, zvar S :: r, h, zpush S (0, 31))] := by
  match st, hs with
  | [], hs => cases hs
  | [_], hs => cases hs
  | b :: a :: r, hs =>
    unfold zs_and at hs
    by_cases c : a.1 = 0 ∧ b = (0, 0, 0, 31)
    · simp only [if_pos c] at hs
      obtain ⟨c1, rfl⟩ := c
      exact ⟨a, r, rfl, c1, (Option.some.inj hs).symm⟩
    · simp only [if_neg c] at hs
      cases hs
theorem zs_loop_ok {kl kz kd ks : Nat} (hs : zs_loop kl kz kd ks pc lc st h S = some L) : ∃ (me sz ds sr : zA) (len0 rr0 : Nat) (fs fd fr : List zA), st = [] ∧ zget lc kl = some (0, 0, 0, 0) ∧ zget lc 0 = some me ∧ me.1 = 2 ∧ h[me.2.2.1]? = some (0, 4, len0, rr0, fs) ∧ fs[kz]? = some sz ∧ sz.1 = 0 ∧ zin S.1 sz 0 400 = true ∧ fs[kd]? = some ds ∧ ds.1 = 2 ∧ fs[ks]? = some sr ∧ sr.1 = 2 ∧ ¬ ds.2.2.1 = sr.2.2.1 ∧ h[ds.2.2.1]? = some (2, 0, 5200, 1, fd) ∧ h[sr.2.2.1]? = some (2, 0, 5200, 1, fr) ∧ fd.length < 3 ∧ fr.length < 3 ∧ L = [(pc + 29, zput lc kl (zvar S), [], h.set ds.2.2.1 (2, 0, 5200, 1, []), zpush S (0, 5200))] := by
  unfold zs_loop at hs
  cases g1 : zget lc kl with
  | none => rw [g1] at hs; cases hs
  | some k0 =>
  rw [g1] at hs
  cases g2 : zget lc 0 with
  | none => rw [g2] at hs; cases hs
  | some me =>
  rw [g2] at hs
  simp only at hs
  cases g3 : h[me.2.2.1]? with
  | none => rw [g3] at hs; cases hs
  | some c =>
  rw [g3] at hs
  obtain ⟨c0, c1, c2, c3, fs⟩ := c
  simp only at hs
  cases g4 : fs[kz]? with
  | none => rw [g4] at hs; cases hs
  | some sz =>
  rw [g4] at hs
  simp only at hs
  cases g5 : fs[kd]? with
  | none => rw [g5] at hs; cases hs
  | some ds =>
  rw [g5] at hs
  simp only at hs
  cases g6 : fs[ks]? with
  | none => rw [g6] at hs; cases hs
  | some sr =>
  rw [g6] at hs
  simp only at hs
  cases g7 : h[ds.2.2.1]? with
  | none => rw [g7] at hs; cases hs
  | some cd =>
  rw [g7] at hs
  obtain ⟨e0, e1, e2, e3, fd⟩ := cd
  simp only at hs
  cases g8 : h[sr.2.2.1]? with
  | none => rw [g8] at hs; cases hs
  | some cs =>
  rw [g8] at hs
  obtain ⟨f0, f1, f2, f3, fr⟩ := cs
  simp only at hs
  split at hs
  · rename_i hc
    obtain ⟨⟨a1, rfl, a3, rfl, rfl⟩, ⟨b1, b2, b3, b4, b5⟩, ⟨rfl, rfl, rfl, rfl, b6⟩, ⟨rfl, rfl, rfl, rfl, b7⟩⟩ := hc
    exact ⟨me, sz, ds, sr, c2, c3, fs, fd, fr, a1, rfl, rfl, a3, g3, g4, b1, b2, g5, b3, g6, b4, b5, g7, g8, b6, b7, (Option.some.inj hs).symm⟩
  · cases hs
theorem zs_aald_ok (hs : zs_aald pc lc st h S = some L) : ∃ (a b : zA) (r : List zA) (n rr t : Nat) (fs : List zA), st = b :: a :: r ∧ a.1 = 2 ∧ b.1 = 0 ∧ n < 2 ^ 31 ∧ zin S.1 b 0 ((n : Int) - 1) = true ∧ (t = 2 ∨ t = 3) ∧ h[a.2.2.1]? = some (3, t, n, rr, fs) ∧ (∀ d ∈ fs, d.1 = 2) ∧
    ∀ (j : Nat) (L' : List zI) (d : zA), j < n → zref 0 S.1 b (0, 0, 0, (j : Int)) = some L' → fs[j]? = some d → (pc + 1, lc, d :: r, h, (L', S.2.1, S.2.2)) ∈ L := by
  match st, hs with
  | [], hs => cases hs
  | [_], hs => cases hs
  | b :: a :: r, hs =>
    unfold zs_aald at hs
    by_cases c : a.1 = 2 ∧ b.1 = 0
    · simp only [if_pos c] at hs
      cases hh : h[a.2.2.1]? with
      | none => rw [hh] at hs; cases hs
      | some q =>
        rw [hh] at hs
        obtain ⟨q0, q1, q2, q3, q4⟩ := q
        simp only at hs
        by_cases c2 : q0 = 3 ∧ (q1 = 2 ∨ q1 = 3) ∧ q2 < 2147483648 ∧ zin S.1 b 0 ((q2 : Int) - 1) = true ∧ q4.all (fun d => d.1 == 2) = true
        · rw [if_pos c2] at hs
          obtain ⟨rfl, c3, c4, c5, c6⟩ := c2
          refine ⟨a, b, r, q2, q3, q1, q4, rfl, c.1, c.2, c4, c5, c3, hh, zall c6, fun j L' d hj hr hd => ?_⟩
          rw [← Option.some.inj hs]
          exact zeach_mem hj hr (by rw [hd]; exact List.mem_singleton.mpr rfl)
        · rw [if_neg c2] at hs
          cases hs
    · simp only [if_neg c] at hs
      cases hs
theorem zs_last_ok (hs : zs_last pc lc st h S = some L) : ∃ (a b d : zA) (r : List zA) (n rr j : Nat) (fs : List zA), st = d :: b :: a :: r ∧ a.1 = 2 ∧ b.1 = 0 ∧ d.1 = 1 ∧ n < 2 ^ 31 ∧ zin S.1 b (j : Int) (j : Int) = true ∧ j < n ∧ h[a.2.2.1]? = some (4, 1, n, rr, fs) ∧ L = [(pc + 1, lc, r, h.set a.2.2.1 (4, 1, n, rr, fs.set j d), S)] := by
  match st, hs with
  | [], hs => cases hs
  | [_], hs => cases hs
  | [_, _], hs => cases hs
  | d :: b :: a :: r, hs =>
    unfold zs_last at hs
    by_cases c : a.1 = 2 ∧ b.1 = 0 ∧ d.1 = 1 ∧ b.2.1 = 0
    · simp only [if_pos c] at hs
      cases hh : h[a.2.2.1]? with
      | none => rw [hh] at hs; cases hs
      | some q =>
        rw [hh] at hs
        obtain ⟨q0, q1, q2, q3, q4⟩ := q
        simp only at hs
        by_cases c2 : q0 = 4 ∧ q1 = 1 ∧ q2 < 2147483648 ∧ zin S.1 b ((b.2.2.2.toNat : Nat) : Int) ((b.2.2.2.toNat : Nat) : Int) = true ∧ b.2.2.2.toNat < q2
        · rw [if_pos c2] at hs
          obtain ⟨rfl, rfl, c3, c4, c5⟩ := c2
          exact ⟨a, b, d, r, q2, q3, b.2.2.2.toNat, q4, rfl, c.1, c.2.1, c.2.2.1, c3, c4, c5, hh, (Option.some.inj hs).symm⟩
        · rw [if_neg c2] at hs
          cases hs
    · simp only [if_neg c] at hs
      cases hs
theorem zs_lald_ok (hs : zs_lald pc lc st h S = some L) : ∃ (a b d : zA) (r : List zA) (n rr j : Nat) (fs : List zA), st = b :: a :: r ∧ a.1 = 2 ∧ b.1 = 0 ∧ d.1 = 1 ∧ n < 2 ^ 31 ∧ zin S.1 b (j : Int) (j : Int) = true ∧ j < n ∧ h[a.2.2.1]? = some (4, 1, n, rr, fs) ∧ fs[j]? = some d ∧ L = [(pc + 1, lc, d :: r, h, S)] := by
  match st, hs with
  | [], hs => cases hs
  | [_], hs => cases hs
  | b :: a :: r, hs =>
    unfold zs_lald at hs
    by_cases c : a.1 = 2 ∧ b.1 = 0 ∧ b.2.1 = 0
    · simp only [if_pos c] at hs
      cases hh : h[a.2.2.1]? with
      | none => rw [hh] at hs; cases hs
      | some q =>
        rw [hh] at hs
        obtain ⟨q0, q1, q2, q3, q4⟩ := q
        simp only at hs
        by_cases c2 : q0 = 4 ∧ q1 = 1 ∧ q2 < 2147483648 ∧ zin S.1 b ((b.2.2.2.toNat : Nat) : Int) ((b.2.2.2.toNat : Nat) : Int) = true ∧ b.2.2.2.toNat < q2
        · rw [if_pos c2] at hs
          obtain ⟨rfl, rfl, c3, c4, c5⟩ := c2
          cases hd : q4[b.2.2.2.toNat]? with
          | none => rw [hd] at hs; cases hs
          | some d =>
            rw [hd] at hs
            simp only at hs
            by_cases c6 : d.1 = 1
            · rw [if_pos c6] at hs
              exact ⟨a, b, d, r, q2, q3, b.2.2.2.toNat, q4, rfl, c.1, c.2.1, c6, c3, c4, c5, hh, hd, (Option.some.inj hs).symm⟩
            · rw [if_neg c6] at hs
              cases hs
        · rw [if_neg c2] at hs
          cases hs
    · simp only [if_neg c] at hs
      cases hs
theorem zs_lcmp_ok (hs : zs_lcmp pc lc st h S = some L) : ∃ (a b : zA) (r : List zA), st = b :: a :: r ∧ a.1 = 1 ∧ b.1 = 1 ∧ a.2 = b.2 ∧ L = [(pc + 1, lc, (0, 0, 0, 0) :: r, h, S)] := by
  match st, hs with
  | [], hs => cases hs
  | [_], hs => cases hs
  | b :: a :: r, hs =>
    unfold zs_lcmp at hs
    by_cases c : a.1 = 1 ∧ b.1 = 1 ∧ a.2 = b.2
    · simp only [if_pos c] at hs
      exact ⟨a, b, r, rfl, c.1, c.2.1, c.2.2, (Option.some.inj hs).symm⟩
    · simp only [if_neg c] at hs
      cases hs
theorem zs_ialdA_ok (hs : zs_ialdA pc lc st h S = some L) : ∃ (a b : zA) (r : List zA) (n rr : Nat) (fs : List zA), st = b :: a :: r ∧ a.1 = 2 ∧ b.1 = 0 ∧ n < 2 ^ 31 ∧ zin S.1 b 0 ((n : Int) - 1) = true ∧ h[a.2.2.1]? = some (1, 0, n, rr, fs) ∧ L = [(pc + 1, lc, zvar S :: r, h, zpush S zfull)] := by
  match st, hs with
  | [], hs => cases hs
  | [_], hs => cases hs
  | b :: a :: r, hs =>
    unfold zs_ialdA at hs
    by_cases c : a.1 = 2 ∧ b.1 = 0
    · simp only [if_pos c] at hs
      cases hh : h[a.2.2.1]? with
      | none => rw [hh] at hs; cases hs
      | some q =>
        rw [hh] at hs
        obtain ⟨q0, q1, q2, q3, q4⟩ := q
        simp only at hs
        by_cases c2 : q0 = 1 ∧ q1 = 0 ∧ q2 < 2147483648 ∧ zin S.1 b 0 ((q2 : Int) - 1) = true
        · rw [if_pos c2] at hs
          obtain ⟨rfl, rfl, c3, c4⟩ := c2
          exact ⟨a, b, r, q2, q3, q4, rfl, c.1, c.2, c3, c4, hh, (Option.some.inj hs).symm⟩
        · rw [if_neg c2] at hs
          cases hs
    · simp only [if_neg c] at hs
      cases hs
theorem zs_if3_ok (hs : zs_if3 t pc lc st h S = some L) : ∃ a r, st = a :: r ∧ a.1 = 0 ∧ z32 S.1 a = true ∧ L = zbr 0 S a (0, 0, 0, 0) t lc r h ++ (zbr 2 S a (0, 0, 0, 0) (pc + 3) lc r h ++ zbr 4 S a (0, 0, 0, 0) (pc + 3) lc r h) := by
  cases st with
  | nil => cases hs
  | cons a r =>
    unfold zs_if3 at hs
    by_cases c : a.1 = 0 ∧ z32 S.1 a = true
    · simp only [if_pos c] at hs
      exact ⟨a, r, rfl, c.1, c.2, (Option.some.inj hs).symm⟩
    · simp only [if_neg c] at hs
      cases hs
theorem zs_xor_ok (hs : zs_xor pc lc st h S = some L) : ∃ a b r, st = b :: a :: r ∧ a.1 = 0 ∧ b.1 = 0 ∧ z32 S.1 a = true ∧ zin S.1 b 0 2147483647 = true ∧
    (∀ L' : List zI, zref 2 S.1 a (0, 0, 0, 0) = some L' → (pc + 1, lc, zvar (L', S.2.1, S.2.2) :: r, h, zpush (L', S.2.1, S.2.2) (-2147483648, -1)) ∈ L) ∧ ∀ L' : List zI, zref 3 S.1 a (0, 0, 0, 0) = some L' → (pc + 1, lc, zvar (L', S.2.1, S.2.2) :: r, h, zpush (L', S.2.1, S.2.2) (0, 2147483647)) ∈ L := by
  match st, hs with
  | [], hs => cases hs
  | [_], hs => cases hs
  | b :: a :: r, hs =>
    unfold zs_xor at hs
    by_cases c : a.1 = 0 ∧ b.1 = 0 ∧ z32 S.1 a = true ∧ zin S.1 b 0 2147483647 = true
    · simp only [if_pos c] at hs
      refine ⟨a, b, r, rfl, c.1, c.2.1, c.2.2.1, c.2.2.2, fun L' hr => ?_, fun L' hr => ?_⟩
      · rw [← Option.some.inj hs, hr]
        exact List.mem_append_left _ (List.mem_singleton.mpr rfl)
      · rw [← Option.some.inj hs, hr]
        exact List.mem_append_right _ (List.mem_singleton.mpr rfl)
    · simp only [if_neg c] at hs
      cases hs
theorem zs_tab_ok {lo : Int} {n : Nat} {ts : List Nat} (hs : zs_tab lo t n ts lc st h S = some L) : ∃ a r, st = a :: r ∧ a.1 = 0 ∧ z32 S.1 a = true ∧
    (∀ L' : List zI, zref 2 S.1 a (0, 0, 0, lo) = some L' → (t, lc, r, h, (L', S.2.1, S.2.2)) ∈ L) ∧ (∀ L' : List zI, zref 4 S.1 a (0, 0, 0, lo + (n : Int) - 1) = some L' → (t, lc, r, h, (L', S.2.1, S.2.2)) ∈ L) ∧
    ∀ (j t2 : Nat) (L' : List zI), j < n → ts[j]? = some t2 → zref 0 S.1 a (0, 0, 0, lo + (j : Int)) = some L' → (t2, lc, r, h, (L', S.2.1, S.2.2)) ∈ L := by
  cases st with
  | nil => cases hs
  | cons a r =>
    unfold zs_tab at hs
    by_cases c : a.1 = 0 ∧ z32 S.1 a = true
    · simp only [if_pos c] at hs
      refine ⟨a, r, rfl, c.1, c.2, fun L' hr => ?_, fun L' hr => ?_, fun j t2 L' hj ht hr => ?_⟩
      · rw [← Option.some.inj hs]
        exact List.mem_append_left _ (zsw_mem hr)
      · rw [← Option.some.inj hs]
        exact List.mem_append_right _ (List.mem_append_left _ (zsw_mem hr))
      · rw [← Option.some.inj hs]
        refine List.mem_append_right _ (List.mem_append_right _ (List.mem_flatMap.mpr ⟨j, List.mem_range.mpr hj, ?_⟩))
        rw [ht]
        exact zsw_mem hr
    · simp only [if_neg c] at hs
      cases hs
theorem zs_cpy_ok {fr lo : Nat} (hs : zs_cpy fr lo pc lc st h S = some L) : ∃ (n dp qd sp qs : zA) (r : List zA) (ld lr rr : Nat) (fd fs : List zA), st = n :: dp :: qd :: sp :: qs :: r ∧ (n.1 = 0 ∧ dp.1 = 0 ∧ qd.1 = 2 ∧ sp.1 = 0 ∧ qs.1 = 2 ∧ 1 ≤ fr ∧ zwords r + (nativeFrameWords "java/lang/System" "arraycopy" 5 + 11) ≤ lo ∧ zin S.1 dp 0 0 = true ∧ zin S.1 sp 0 0 = true) ∧
    h[qd.2.2.1]? = some (2, 0, ld, rr, fd) ∧ h[qs.2.2.1]? = some (2, 0, lr, rr, fs) ∧ ¬ rr = 1 ∧ ¬ rr = 2 ∧ ld < 2 ^ 31 ∧ lr < 2 ^ 31 ∧ zin S.1 n 0 (lr : Int) = true ∧ zin S.1 n 0 (ld : Int) = true ∧ L = [(pc + 3, lc, r, h, S)] := by
  match st, hs with
  | [], hs => cases hs
  | [_], hs => cases hs
  | [_, _], hs => cases hs
  | [_, _, _], hs => cases hs
  | [_, _, _, _], hs => cases hs
  | n :: dp :: qd :: sp :: qs :: r, hs =>
    unfold zs_cpy at hs
    by_cases c : n.1 = 0 ∧ dp.1 = 0 ∧ qd.1 = 2 ∧ sp.1 = 0 ∧ qs.1 = 2 ∧ 1 ≤ fr ∧ zwords r + (nativeFrameWords "java/lang/System" "arraycopy" 5 + 11) ≤ lo ∧ zin S.1 dp 0 0 = true ∧ zin S.1 sp 0 0 = true
    · simp only [if_pos c] at hs
      cases hh : h[qd.2.2.1]? with
      | none => rw [hh] at hs; cases hs
      | some q =>
        rw [hh] at hs
        cases hh2 : h[qs.2.2.1]? with
        | none => rw [hh2] at hs; cases hs
        | some q' =>
          rw [hh2] at hs
          obtain ⟨q0, q1, q2, q3, q4⟩ := q
          obtain ⟨p0, p1, p2, p3, p4⟩ := q'
          simp only at hs
          by_cases c2 : q0 = 2 ∧ p0 = 2 ∧ q1 = 0 ∧ p1 = 0 ∧ q3 = p3 ∧ ¬ q3 = 1 ∧ ¬ q3 = 2 ∧ q2 < 2147483648 ∧ p2 < 2147483648 ∧ zin S.1 n 0 (p2 : Int) = true ∧ zin S.1 n 0 (q2 : Int) = true
          · rw [if_pos c2] at hs
            obtain ⟨rfl, rfl, rfl, rfl, rfl, n1, n2, c3, c4, c5, c6⟩ := c2
            exact ⟨n, dp, qd, sp, qs, r, q2, p2, q3, q4, p4, rfl, c, hh, hh2, n1, n2, c3, c4, c5, c6, (Option.some.inj hs).symm⟩
          · rw [if_neg c2] at hs
            cases hs
    · simp only [if_neg c] at hs
      cases hs
theorem zs_1_ok {f : zA → List zA → Option (List zA)} (hs : zs_1 f len pc lc st h S = some L) : ∃ a r st', st = a :: r ∧ f a r = some st' ∧ L = [(pc + len, lc, st', h, S)] := by
  cases st with
  | nil => cases hs
  | cons a r =>
    unfold zs_1 at hs
    cases hf : f a r with
    | none => simp only [hf] at hs; cases hs
    | some st' =>
      simp only [hf] at hs
      exact ⟨a, r, st', rfl, hf, (Option.some.inj hs).symm⟩
end ZV
