/-! ===== numbers that a walk knows by bounds alone: a number is k * (a variable) + c ===== -/
/-- (tag, k, v, c): tag 0 the int k * e v + c, tag 1 the long of it, tag 2 the cell v -/
abbrev zA : Type := Nat × Int × Nat × Int
abbrev zI : Type := Int × Int
/-- a cell: kind (0 object, 1 int array place by place, 2 int array by a rule, 3 array of cells, 4 long array), class or type, length, rule, places -/
abbrev zC : Type := Nat × Nat × Nat × Nat × List zA
/-- what is known: bounds of the variables; pairs (a, b) with b at most a; values read at a place of a ruled array -/
abbrev zS : Type := List zI × List (zA × zA) × List (Nat × Nat × zA)
abbrev zL : Type := List (Nat × zA)
def zv (e : Nat → Int) (a : zA) : Int := a.2.1 * e a.2.2.1 + a.2.2.2
def zwf (n : Nat) (a : zA) : Prop := a.2.1 = 0 ∨ a.2.2.1 < n
def zag (n : Nat) (e e' : Nat → Int) : Prop := ∀ v : Nat, v < n → e' v = e v
theorem zag_rf (n : Nat) (e : Nat → Int) : zag n e e := fun _ _ => rfl
theorem zag_tr {n n' : Nat} {e e1 e2 : Nat → Int} (h : zag n e e1) (h1 : zag n' e1 e2) (hn : n ≤ n') : zag n e e2 := fun v hv => (h1 v (by omega)).trans (h v hv)
theorem zwf_le {n n' : Nat} {a : zA} (h : zwf n a) (hn : n ≤ n') : zwf n' a := by
  rcases h with h | h
  · exact Or.inl h
  · exact Or.inr (by omega)
theorem zv_ag {n : Nat} {e e' : Nat → Int} {a : zA} (h : zag n e e') (hw : zwf n a) : zv e' a = zv e a := by
  unfold zv
  rcases hw with h0 | h0
  · rw [h0]; simp
  · rw [h _ h0]
def zrng (L : List zI) (a : zA) : Option zI :=
  if a.2.1 = 0 then some (a.2.2.2, a.2.2.2) else
  match L[a.2.2.1]? with
  | none => none
  | some i => if 0 < a.2.1 then some (a.2.1 * i.1 + a.2.2.2, a.2.1 * i.2 + a.2.2.2) else some (a.2.1 * i.2 + a.2.2.2, a.2.1 * i.1 + a.2.2.2)
def zS1 (e : Nat → Int) (L : List zI) : Prop := ∀ (v : Nat) (i : zI), L[v]? = some i → i.1 ≤ e v ∧ e v ≤ i.2
theorem zrng_ok {e : Nat → Int} {L : List zI} {a : zA} {i : zI} (h : zS1 e L) (hr : zrng L a = some i) : i.1 ≤ zv e a ∧ zv e a ≤ i.2 := by
  unfold zrng at hr
  by_cases h0 : a.2.1 = 0
  · rw [if_pos h0] at hr
    cases hr
    unfold zv
    rw [h0]
    simp
  · rw [if_neg h0] at hr
    cases hL : L[a.2.2.1]? with
    | none => rw [hL] at hr; cases hr
    | some j =>
      rw [hL] at hr
      obtain ⟨h1, h2⟩ := h _ _ hL
      unfold zv
      by_cases hp : 0 < a.2.1
      · simp only [if_pos hp] at hr
        cases hr
        have q1 := Int.mul_le_mul_of_nonneg_left h1 (Int.le_of_lt hp)
        have q2 := Int.mul_le_mul_of_nonneg_left h2 (Int.le_of_lt hp)
        exact ⟨by omega, by omega⟩
      · simp only [if_neg hp] at hr
        cases hr
        have hn : a.2.1 ≤ 0 := by omega
        have q1 := Int.mul_le_mul_of_nonpos_left hn h1
        have q2 := Int.mul_le_mul_of_nonpos_left hn h2
        exact ⟨by omega, by omega⟩
theorem zrng_wf {L : List zI} {a : zA} {i : zI} (hr : zrng L a = some i) : zwf L.length a := by
  unfold zrng at hr
  by_cases h0 : a.2.1 = 0
  · exact Or.inl h0
  · rw [if_neg h0] at hr
    cases hL : L[a.2.2.1]? with
    | none => rw [hL] at hr; cases hr
    | some j => exact Or.inr (List.getElem?_eq_some_iff.mp hL).1
def zin (L : List zI) (a : zA) (lo hi : Int) : Bool := match zrng L a with
  | some i => decide (lo ≤ i.1) && decide (i.2 ≤ hi)
  | none => false
theorem zin_ok {e : Nat → Int} {L : List zI} {a : zA} {lo hi : Int} (h : zS1 e L) (hz : zin L a lo hi = true) : lo ≤ zv e a ∧ zv e a ≤ hi := by
  unfold zin at hz
  cases hr : zrng L a with
  | none => rw [hr] at hz; cases hz
  | some i =>
    rw [hr] at hz
    simp only [Bool.and_eq_true, decide_eq_true_eq] at hz
    obtain ⟨h1, h2⟩ := zrng_ok h hr
    exact ⟨by omega, by omega⟩
theorem zin_wf {L : List zI} {a : zA} {lo hi : Int} (hz : zin L a lo hi = true) : zwf L.length a := by
  unfold zin at hz
  cases hr : zrng L a with
  | none => rw [hr] at hz; cases hz
  | some i => exact zrng_wf hr
def z32 (L : List zI) (a : zA) : Bool := zin L a (-2147483648) 2147483647
theorem z32_i {z : Int} (h : -2147483648 ≤ z ∧ z ≤ 2147483647) : (Int32.ofInt z).toInt = z := Int32.toInt_ofInt_of_le (by omega) (by omega)
theorem zi_rng (x : Int32) : -2147483648 ≤ x.toInt ∧ x.toInt ≤ 2147483647 := by
  have h1 := x.le_toInt
  have h2 := x.toInt_lt
  exact ⟨by omega, by omega⟩
/-- the number a is at most u -/
def zhi (L : List zI) (a : zA) (u : Int) : Option (List zI) :=
  if a.2.1 = 0 then (if a.2.2.2 ≤ u then some L else none)
  else if 1 ≤ a.2.1 then
    match L[a.2.2.1]? with
    | none => some L
    | some i => if i.2 ≤ (u - a.2.2.2) / a.2.1 then some L else if i.1 ≤ (u - a.2.2.2) / a.2.1 then some (L.set a.2.2.1 (i.1, (u - a.2.2.2) / a.2.1)) else none
  else some L
def zlo (L : List zI) (a : zA) (u : Int) : Option (List zI) :=
  if a.2.1 = 0 then (if u ≤ a.2.2.2 then some L else none)
  else if a.2.1 = 1 then
    match L[a.2.2.1]? with
    | none => some L
    | some i => if u - a.2.2.2 ≤ i.1 then some L else if u - a.2.2.2 ≤ i.2 then some (L.set a.2.2.1 (u - a.2.2.2, i.2)) else none
  else some L
theorem zS1_set {e : Nat → Int} {L : List zI} {v : Nat} {i : zI} (h : zS1 e L) (hi : i.1 ≤ e v ∧ e v ≤ i.2) : zS1 e (L.set v i) := by
  intro w j hw
  by_cases hvw : v = w
  · subst hvw
    by_cases hl : v < L.length
    · rw [List.getElem?_set_self hl] at hw
      cases hw
      exact hi
    · rw [List.set_eq_of_length_le (by omega)] at hw
      exact h _ _ hw
  · rw [List.getElem?_set_ne hvw] at hw
    exact h _ _ hw
theorem zhi_ok {e : Nat → Int} {L : List zI} {a : zA} {u : Int} (h : zS1 e L) (hu : zv e a ≤ u) : ∃ L', zhi L a u = some L' ∧ zS1 e L' ∧ L'.length = L.length := by
  unfold zhi
  unfold zv at hu
  by_cases h0 : a.2.1 = 0
  · rw [if_pos h0]
    rw [h0] at hu
    have : a.2.2.2 ≤ u := by simpa using hu
    exact ⟨L, if_pos this, h, rfl⟩
  · rw [if_neg h0]
    by_cases h1 : 1 ≤ a.2.1
    · rw [if_pos h1]
      have hu2 : e a.2.2.1 ≤ (u - a.2.2.2) / a.2.1 := Int.le_ediv_of_mul_le (by omega) (by rw [Int.mul_comm]; omega)
      cases hL : L[a.2.2.1]? with
      | none => exact ⟨L, rfl, h, rfl⟩
      | some i =>
        obtain ⟨q1, q2⟩ := h _ _ hL
        by_cases c1 : i.2 ≤ (u - a.2.2.2) / a.2.1
        · exact ⟨L, by simp only [if_pos c1], h, rfl⟩
        · have c2 : i.1 ≤ (u - a.2.2.2) / a.2.1 := Int.le_trans q1 hu2
          exact ⟨L.set a.2.2.1 (i.1, (u - a.2.2.2) / a.2.1), by simp only [if_neg c1, if_pos c2], zS1_set h ⟨q1, hu2⟩, by simp⟩
    · rw [if_neg h1]
      exact ⟨L, rfl, h, rfl⟩
theorem zlo_ok {e : Nat → Int} {L : List zI} {a : zA} {u : Int} (h : zS1 e L) (hu : u ≤ zv e a) : ∃ L', zlo L a u = some L' ∧ zS1 e L' ∧ L'.length = L.length := by
  unfold zlo
  unfold zv at hu
  by_cases h0 : a.2.1 = 0
  · rw [if_pos h0]
    rw [h0] at hu
    have : u ≤ a.2.2.2 := by simpa using hu
    exact ⟨L, if_pos this, h, rfl⟩
  · rw [if_neg h0]
    by_cases h1 : a.2.1 = 1
    · rw [if_pos h1]
      rw [h1, Int.one_mul] at hu
      cases hL : L[a.2.2.1]? with
      | none => exact ⟨L, rfl, h, rfl⟩
      | some i =>
        obtain ⟨q1, q2⟩ := h _ _ hL
        by_cases c1 : u - a.2.2.2 ≤ i.1
        · exact ⟨L, by simp only [if_pos c1], h, rfl⟩
        · have c2 : u - a.2.2.2 ≤ i.2 := by omega
          exact ⟨L.set a.2.2.1 (u - a.2.2.2, i.2), by simp only [if_neg c1, if_pos c2], zS1_set h ⟨by show u - a.2.2.2 ≤ _; omega, q2⟩, by simp⟩
    · rw [if_neg h1]
      exact ⟨L, rfl, h, rfl⟩
/-- a + d is at most b -/
def zr2 (L : List zI) (a b : zA) (d : Int) : Option (List zI) :=
  match zrng L a with
  | none => some L
  | some ia => match zrng L b with
    | none => some L
    | some ib => match zhi L a (ib.2 - d) with
      | none => none
      | some L1 => zlo L1 b (ia.1 + d)
theorem zr2_ok {e : Nat → Int} {L : List zI} {a b : zA} {d : Int} (h : zS1 e L) (hu : zv e a + d ≤ zv e b) : ∃ L', zr2 L a b d = some L' ∧ zS1 e L' ∧ L'.length = L.length := by
  unfold zr2
  cases ha : zrng L a with
  | none => exact ⟨L, rfl, h, rfl⟩
  | some ia =>
    cases hb : zrng L b with
    | none => exact ⟨L, rfl, h, rfl⟩
    | some ib =>
      obtain ⟨a1, a2⟩ := zrng_ok h ha
      obtain ⟨b1, b2⟩ := zrng_ok h hb
      obtain ⟨L1, e1, h1, l1⟩ := zhi_ok (a := a) (u := ib.2 - d) h (by omega)
      obtain ⟨L2, e2, h2, l2⟩ := zlo_ok (a := b) (u := ia.1 + d) h1 (by omega)
      exact ⟨L2, by simp only [e1]; exact e2, h2, l2.trans l1⟩
def zne (L : List zI) (a b : zA) : Option (List zI) := if a.2 = b.2 then none else
  match zrng L a with
  | none => some L
  | some ia => match zrng L b with
    | none => some L
    | some ib => if ib.1 = ib.2 then (if ia.1 = ib.1 then zlo L a (ia.1 + 1) else if ia.2 = ib.1 then zhi L a (ia.2 - 1) else some L) else some L
theorem zne_ok {e : Nat → Int} {L : List zI} {a b : zA} (h : zS1 e L) (hu : ¬ zv e a = zv e b) : ∃ L', zne L a b = some L' ∧ zS1 e L' ∧ L'.length = L.length := by
  unfold zne
  rw [if_neg (fun q => hu (by unfold zv; rw [q]))]
  cases ha : zrng L a with
  | none => exact ⟨L, rfl, h, rfl⟩
  | some ia =>
    cases hb : zrng L b with
    | none => exact ⟨L, rfl, h, rfl⟩
    | some ib =>
      obtain ⟨a1, a2⟩ := zrng_ok h ha
      obtain ⟨b1, b2⟩ := zrng_ok h hb
      by_cases c : ib.1 = ib.2
      · simp only [if_pos c]
        by_cases c1 : ia.1 = ib.1
        · simp only [if_pos c1]
          exact zlo_ok h (by omega)
        · simp only [if_neg c1]
          by_cases c2 : ia.2 = ib.1
          · simp only [if_pos c2]
            exact zhi_ok h (by omega)
          · simp only [if_neg c2]
            exact ⟨L, rfl, h, rfl⟩
      · simp only [if_neg c]
        exact ⟨L, rfl, h, rfl⟩
/-- comparisons: 0 eq, 1 ne, 2 lt, 3 ge, 4 gt, else le -/
def zrel (op : Nat) (x y : Int) : Prop := match op with
  | 0 => x = y
  | 1 => ¬ x = y
  | 2 => x < y
  | 3 => y ≤ x
  | 4 => y < x
  | _ => x ≤ y
def znot (op : Nat) : Nat := match op with
  | 0 => 1
  | 1 => 0
  | 2 => 3
  | 3 => 2
  | 4 => 5
  | _ => 4
def zref (op : Nat) (L : List zI) (a b : zA) : Option (List zI) := match op with
  | 0 => match zr2 L a b 0 with
    | none => none
    | some L1 => zr2 L1 b a 0
  | 1 => zne L a b
  | 2 => zr2 L a b 1
  | 3 => zr2 L b a 0
  | 4 => zr2 L b a 1
  | _ => zr2 L a b 0
theorem zref_ok {e : Nat → Int} {L : List zI} {a b : zA} (op : Nat) (h : zS1 e L) (hu : zrel op (zv e a) (zv e b)) : ∃ L', zref op L a b = some L' ∧ zS1 e L' ∧ L'.length = L.length := by
  match op, hu with
  | 0, hu =>
    have hu : zv e a = zv e b := hu
    obtain ⟨L1, e1, h1, l1⟩ := zr2_ok (a := a) (b := b) (d := 0) h (by omega)
    obtain ⟨L2, e2, h2, l2⟩ := zr2_ok (a := b) (b := a) (d := 0) h1 (by omega)
    exact ⟨L2, by simp only [zref, e1]; exact e2, h2, l2.trans l1⟩
  | 1, hu => exact zne_ok h hu
  | 2, hu =>
    have hu : zv e a < zv e b := hu
    exact zr2_ok h (by omega)
  | 3, hu =>
    have hu : zv e b ≤ zv e a := hu
    exact zr2_ok h (by omega)
  | 4, hu =>
    have hu : zv e b < zv e a := hu
    exact zr2_ok h (by omega)
  | n + 5, hu =>
    have hu : zv e a ≤ zv e b := hu
    exact zr2_ok h (by omega)
theorem znot_ok (op : Nat) {x y : Int} (h : ¬ zrel op x y) : zrel (znot op) x y := by
  match op, h with
  | 0, h => exact h
  | 1, h => exact Classical.not_not.mp h
  | 2, h => exact Int.not_lt.mp h
  | 3, h => exact Int.not_le.mp h
  | 4, h => exact Int.not_lt.mp h
  | n + 5, h => exact Int.not_le.mp h
def zfact (op : Nat) (a b : zA) : List (zA × zA) := if a.2.1 = 0 then [] else if b.2.1 = 0 then [] else match op with
  | 0 => []
  | 1 => []
  | 2 => [(b, a)]
  | 3 => [(a, b)]
  | 4 => [(a, b)]
  | _ => [(b, a)]
theorem zfact_ok {e : Nat → Int} (op : Nat) {a b : zA} (hu : zrel op (zv e a) (zv e b)) : ∀ q ∈ zfact op a b, (q = (a, b) ∨ q = (b, a)) ∧ zv e q.2 ≤ zv e q.1 := by
  intro q hq
  unfold zfact at hq
  by_cases h1 : a.2.1 = 0
  · rw [if_pos h1] at hq; cases hq
  · rw [if_neg h1] at hq
    by_cases h2 : b.2.1 = 0
    · rw [if_pos h2] at hq; cases hq
    · rw [if_neg h2] at hq
      match op, hu, hq with
      | 0, _, hq => cases hq
      | 1, _, hq => cases hq
      | 2, hu, hq =>
        have hu : zv e a < zv e b := hu
        rw [List.mem_singleton.mp hq]
        exact ⟨Or.inr rfl, by show zv e a ≤ zv e b; omega⟩
      | 3, hu, hq =>
        have hu : zv e b ≤ zv e a := hu
        rw [List.mem_singleton.mp hq]
        exact ⟨Or.inl rfl, hu⟩
      | 4, hu, hq =>
        have hu : zv e b < zv e a := hu
        rw [List.mem_singleton.mp hq]
        exact ⟨Or.inl rfl, by show zv e b ≤ zv e a; omega⟩
      | n + 5, hu, hq =>
        have hu : zv e a ≤ zv e b := hu
        rw [List.mem_singleton.mp hq]
        exact ⟨Or.inr rfl, hu⟩
