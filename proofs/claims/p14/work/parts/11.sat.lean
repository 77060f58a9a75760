/-! ===== what is known of the numbers, and how reckoning keeps it ===== -/
/-- an array's rule: bounds of its places, by the place's remainder -/
def zok (r : List zI) (j : Nat) (x : Int) : Prop := ∃ i : zI, r[j % r.length]? = some i ∧ i.1 ≤ x ∧ x ≤ i.2
def zSat (rul : Nat → List zI) (e : Nat → Int) (S : zS) : Prop := zS1 e S.1 ∧ (∀ q ∈ S.2.1, zwf S.1.length q.1 ∧ zwf S.1.length q.2 ∧ zv e q.2 ≤ zv e q.1) ∧ ∀ q ∈ S.2.2, q.1 < S.1.length ∧ zwf S.1.length q.2.2 ∧ ∃ j : Nat, zv e q.2.2 = (j : Int) ∧ zok (rul q.2.1) j (e q.1)
def zext (e : Nat → Int) (n : Nat) (x : Int) : Nat → Int := fun v => if v = n then x else e v
theorem zag_ext (e : Nat → Int) (n : Nat) (x : Int) : zag n e (zext e n x) := fun v hv => by
  unfold zext
  rw [if_neg (by omega)]
theorem zext_at (e : Nat → Int) (n : Nat) (x : Int) : zext e n x n = x := by
  unfold zext
  rw [if_pos rfl]
def zpush (S : zS) (i : zI) : zS := (S.1 ++ [i], S.2.1, S.2.2)
def zvar (S : zS) : zA := (0, 1, S.1.length, 0)
theorem zpush_len (S : zS) (i : zI) : (zpush S i).1.length = S.1.length + 1 := by simp [zpush]
theorem zvar_wf (S : zS) (i : zI) : zwf (zpush S i).1.length (zvar S) := Or.inr (by rw [zpush_len]; exact Nat.lt_succ_self _)
theorem zvar_v (S : zS) (e : Nat → Int) (x : Int) : zv (zext e S.1.length x) (zvar S) = x := by
  unfold zv zvar
  simp [zext]
theorem zSat_push {rul : Nat → List zI} {e : Nat → Int} {S : zS} {i : zI} {x : Int} (h : zSat rul e S) (hi : i.1 ≤ x ∧ x ≤ i.2) : zSat rul (zext e S.1.length x) (zpush S i) := by
  obtain ⟨h1, h2, h3⟩ := h
  have ag := zag_ext e S.1.length x
  refine ⟨fun v j hv => ?_, fun q hq => ?_, fun q hq => ?_⟩
  · by_cases hl : v < S.1.length
    · have hv' : S.1[v]? = some j := by
        have := hv
        unfold zpush at this
        simp only at this
        rwa [List.getElem?_append_left hl] at this
      rw [ag v hl]
      exact h1 _ _ hv'
    · have hv' := hv
      unfold zpush at hv'
      simp only at hv'
      rw [List.getElem?_append_right (by omega)] at hv'
      have hz : v - S.1.length < 1 := (List.getElem?_eq_some_iff.mp hv').1
      have hk : v = S.1.length := by omega
      subst hk
      rw [Nat.sub_self] at hv'
      cases hv'
      rw [zext_at]
      exact hi
  · obtain ⟨a, b, c⟩ := h2 q hq
    rw [zpush_len, zv_ag ag a, zv_ag ag b]
    exact ⟨zwf_le a (by omega), zwf_le b (by omega), c⟩
  · obtain ⟨a, b, j, c, d⟩ := h3 q hq
    rw [zpush_len, zv_ag ag b, ag _ a]
    exact ⟨by omega, zwf_le b (by omega), j, c, d⟩
theorem zSat_ref {rul : Nat → List zI} {e : Nat → Int} {S : zS} {L' : List zI} (h : zSat rul e S) (h1 : zS1 e L') (hl : L'.length = S.1.length) : zSat rul e (L', S.2.1, S.2.2) := by
  refine ⟨h1, fun q hq => ?_, fun q hq => ?_⟩
  · have := h.2.1 q hq
    rw [← hl] at this
    exact this
  · have := h.2.2 q hq
    rw [← hl] at this
    exact this
theorem zSat_fact {rul : Nat → List zI} {e : Nat → Int} {S : zS} {F : List (zA × zA)} (h : zSat rul e S) (hF : ∀ q ∈ F, zwf S.1.length q.1 ∧ zwf S.1.length q.2 ∧ zv e q.2 ≤ zv e q.1) : zSat rul e (S.1, F ++ S.2.1, S.2.2) := by
  refine ⟨h.1, fun q hq => ?_, h.2.2⟩
  rcases List.mem_append.mp hq with q1 | q1
  · exact hF q q1
  · exact h.2.1 q q1
theorem zSat_note {rul : Nat → List zI} {e : Nat → Int} {S : zS} {F : Nat × Nat × zA} (h : zSat rul e S) (hF : F.1 < S.1.length ∧ zwf S.1.length F.2.2 ∧ ∃ j : Nat, zv e F.2.2 = (j : Int) ∧ zok (rul F.2.1) j (e F.1)) : zSat rul e (S.1, S.2.1, F :: S.2.2) := by
  refine ⟨h.1, h.2.1, fun q hq => ?_⟩
  rcases List.mem_cons.mp hq with q1 | q1
  · rw [q1]; exact hF
  · exact h.2.2 q q1
/-- a new number within bounds -/
def znew (S : zS) (i : zI) : zS × zA := (zpush S i, zvar S)
def zfull : zI := (-2147483648, 2147483647)
def zsum (S : zS) (ia ib : Option zI) : zI := match ia with
  | none => zfull
  | some a => match ib with
    | none => zfull
    | some b => if -2147483648 ≤ a.1 + b.1 ∧ a.2 + b.2 ≤ 2147483647 then (a.1 + b.1, a.2 + b.2) else zfull
def zdif (F : Bool) (ia ib : Option zI) : zI := match ia with
  | none => zfull
  | some a => match ib with
    | none => zfull
    | some b => if -2147483648 ≤ a.1 - b.2 ∧ a.2 - b.1 ≤ 2147483647 then ((if F then (if a.1 - b.2 ≤ 0 then 0 else a.1 - b.2) else a.1 - b.2), a.2 - b.1) else zfull
/-- keep a number that fits an int; else any int -/
def znorm (S : zS) (r : zA) : zS × zA := if z32 S.1 r then (S, r) else znew S zfull
def zadd (S : zS) (a b : zA) : zS × zA :=
  if a.2.1 = 0 then znorm S (0, b.2.1, b.2.2.1, a.2.2.2 + b.2.2.2)
  else if b.2.1 = 0 then znorm S (0, a.2.1, a.2.2.1, a.2.2.2 + b.2.2.2)
  else if a.2.2.1 = b.2.2.1 then znorm S (0, a.2.1 + b.2.1, a.2.2.1, a.2.2.2 + b.2.2.2)
  else znew S (zsum S (zrng S.1 a) (zrng S.1 b))
def zsub (S : zS) (a b : zA) : zS × zA :=
  if a.2.1 = 0 then znorm S (0, -b.2.1, b.2.2.1, a.2.2.2 - b.2.2.2)
  else if b.2.1 = 0 then znorm S (0, a.2.1, a.2.2.1, a.2.2.2 - b.2.2.2)
  else if a.2.2.1 = b.2.2.1 then znorm S (0, a.2.1 - b.2.1, a.2.2.1, a.2.2.2 - b.2.2.2)
  else znew S (zdif (decide ((a, b) ∈ S.2.1)) (zrng S.1 a) (zrng S.1 b))
def zmul (S : zS) (a b : zA) : zS × zA :=
  if a.2.1 = 0 then znorm S (0, a.2.2.2 * b.2.1, b.2.2.1, a.2.2.2 * b.2.2.2)
  else if b.2.1 = 0 then znorm S (0, a.2.1 * b.2.2.2, a.2.2.1, a.2.2.2 * b.2.2.2)
  else znew S zfull
/-- remainder by a positive constant -/
def zrem (S : zS) (a b : zA) : Option (zS × zA) :=
  if b.2.1 = 0 ∧ 0 < b.2.2.2 ∧ b.2.2.2 ≤ 2147483647 ∧ z32 S.1 a = true then some (znew S (if zin S.1 a 0 2147483647 then (0, b.2.2.2 - 1) else (1 - b.2.2.2, b.2.2.2 - 1))) else none
/-- what a reckoning gives: the old numbers stay, the new one is x -/
def zres (rul : Nat → List zI) (e : Nat → Int) (S : zS) (r : zS × zA) (x : Int32) : Prop :=
  ∃ e' : Nat → Int, zag S.1.length e e' ∧ zSat rul e' r.1 ∧ S.1.length ≤ r.1.1.length ∧ zwf r.1.1.length r.2 ∧ r.2.1 = 0 ∧ Int32.ofInt (zv e' r.2) = x
theorem znew_ok {rul : Nat → List zI} {e : Nat → Int} {S : zS} {i : zI} {x : Int32} (h : zSat rul e S) (hi : i.1 ≤ x.toInt ∧ x.toInt ≤ i.2) : zres rul e S (znew S i) x := by
  refine ⟨zext e S.1.length x.toInt, zag_ext _ _ _, zSat_push h hi, ?_, zvar_wf S i, rfl, ?_⟩
  · show S.1.length ≤ (zpush S i).1.length
    rw [zpush_len]; omega
  · show Int32.ofInt (zv _ (zvar S)) = x
    rw [zvar_v]
    exact Int32.ofInt_toInt x
theorem znorm_ok {rul : Nat → List zI} {e : Nat → Int} {S : zS} {r : zA} {x : Int32} (h : zSat rul e S) (h0 : r.1 = 0) (hx : Int32.ofInt (zv e r) = x) : zres rul e S (znorm S r) x := by
  unfold znorm
  by_cases c : z32 S.1 r = true
  · rw [if_pos c]
    exact ⟨e, zag_rf _ _, h, Nat.le_refl _, zin_wf c, h0, hx⟩
  · rw [if_neg c]
    exact znew_ok h (zi_rng x)
theorem zadd_ok {rul : Nat → List zI} {e : Nat → Int} {S : zS} {a b : zA} (h : zSat rul e S) : zres rul e S (zadd S a b) (Int32.ofInt (zv e a) + Int32.ofInt (zv e b)) := by
  have key : ∀ r : zA, zv e r = zv e a + zv e b → Int32.ofInt (zv e r) = Int32.ofInt (zv e a) + Int32.ofInt (zv e b) := fun r hr => by rw [hr, Int32.ofInt_add]
  unfold zadd
  by_cases c1 : a.2.1 = 0
  · rw [if_pos c1]
    refine znorm_ok h rfl (key _ ?_)
    unfold zv
    rw [c1]
    simp
    omega
  · rw [if_neg c1]
    by_cases c2 : b.2.1 = 0
    · rw [if_pos c2]
      refine znorm_ok h rfl (key _ ?_)
      unfold zv
      rw [c2]
      simp
      omega
    · rw [if_neg c2]
      by_cases c3 : a.2.2.1 = b.2.2.1
      · rw [if_pos c3]
        refine znorm_ok h rfl (key _ ?_)
        unfold zv
        rw [← c3]
        simp only
        rw [Int.add_mul]
        omega
      · rw [if_neg c3]
        refine znew_ok h ?_
        cases ha : zrng S.1 a with
        | none => exact zi_rng _
        | some ia =>
          cases hb : zrng S.1 b with
          | none => exact zi_rng _
          | some ib =>
            unfold zsum
            simp only
            by_cases c : -2147483648 ≤ ia.1 + ib.1 ∧ ia.2 + ib.2 ≤ 2147483647
            · rw [if_pos c]
              obtain ⟨a1, a2⟩ := zrng_ok h.1 ha
              obtain ⟨b1, b2⟩ := zrng_ok h.1 hb
              rw [← Int32.ofInt_add, z32_i (by omega)]
              exact ⟨by show ia.1 + ib.1 ≤ _; omega, by show _ ≤ ia.2 + ib.2; omega⟩
            · rw [if_neg c]
              exact zi_rng _
theorem zsub_ok {rul : Nat → List zI} {e : Nat → Int} {S : zS} {a b : zA} (h : zSat rul e S) : zres rul e S (zsub S a b) (Int32.ofInt (zv e a) - Int32.ofInt (zv e b)) := by
  have key : ∀ r : zA, zv e r = zv e a - zv e b → Int32.ofInt (zv e r) = Int32.ofInt (zv e a) - Int32.ofInt (zv e b) := fun r hr => by rw [hr, Int32.ofInt_sub]
  unfold zsub
  by_cases c1 : a.2.1 = 0
  · rw [if_pos c1]
    refine znorm_ok h rfl (key _ ?_)
    unfold zv
    rw [c1]
    simp only
    rw [Int.neg_mul, Int.zero_mul]
    omega
  · rw [if_neg c1]
    by_cases c2 : b.2.1 = 0
    · rw [if_pos c2]
      refine znorm_ok h rfl (key _ ?_)
      unfold zv
      rw [c2]
      simp
      omega
    · rw [if_neg c2]
      by_cases c3 : a.2.2.1 = b.2.2.1
      · rw [if_pos c3]
        refine znorm_ok h rfl (key _ ?_)
        unfold zv
        rw [← c3]
        simp only
        rw [Int.sub_mul]
        omega
      · rw [if_neg c3]
        refine znew_ok h ?_
        cases ha : zrng S.1 a with
        | none => exact zi_rng _
        | some ia =>
          cases hb : zrng S.1 b with
          | none => exact zi_rng _
          | some ib =>
            unfold zdif
            simp only
            by_cases c : -2147483648 ≤ ia.1 - ib.2 ∧ ia.2 - ib.1 ≤ 2147483647
            · rw [if_pos c]
              obtain ⟨a1, a2⟩ := zrng_ok h.1 ha
              obtain ⟨b1, b2⟩ := zrng_ok h.1 hb
              rw [← Int32.ofInt_sub, z32_i (by omega)]
              refine ⟨?_, by show _ ≤ ia.2 - ib.1; omega⟩
              by_cases hm : (a, b) ∈ S.2.1
              · have h3 := (h.2.1 _ hm).2.2
                have h3 : zv e b ≤ zv e a := h3
                simp only [hm, decide_true, if_true]
                by_cases c4 : ia.1 - ib.2 ≤ 0
                · simp only [if_pos c4]; omega
                · simp only [if_neg c4]; omega
              · simp only [hm, decide_false]
                show ia.1 - ib.2 ≤ _
                omega
            · rw [if_neg c]
              exact zi_rng _
theorem zmul_ok {rul : Nat → List zI} {e : Nat → Int} {S : zS} {a b : zA} (h : zSat rul e S) : zres rul e S (zmul S a b) (Int32.ofInt (zv e a) * Int32.ofInt (zv e b)) := by
  have key : ∀ r : zA, zv e r = zv e a * zv e b → Int32.ofInt (zv e r) = Int32.ofInt (zv e a) * Int32.ofInt (zv e b) := fun r hr => by rw [hr, Int32.ofInt_mul]
  unfold zmul
  by_cases c1 : a.2.1 = 0
  · rw [if_pos c1]
    refine znorm_ok h rfl (key _ ?_)
    unfold zv
    rw [c1]
    simp only
    rw [Int.zero_mul, Int.zero_add, Int.mul_add, Int.mul_assoc]
  · rw [if_neg c1]
    by_cases c2 : b.2.1 = 0
    · rw [if_pos c2]
      refine znorm_ok h rfl (key _ ?_)
      unfold zv
      rw [c2]
      simp only
      rw [Int.zero_mul, Int.zero_add, Int.add_mul, Int.mul_assoc, Int.mul_assoc, Int.mul_comm b.2.2.2]
    · rw [if_neg c2]
      exact znew_ok h (zi_rng _)
theorem zrem_x {x d : Int32} (hd : 0 < d.toInt) : (x - x / d * d).toInt = x.toInt.tmod d.toInt := by
  have e1 : (x / d).toInt = x.toInt.tdiv d.toInt := by
    rw [Int32.toInt_div]
    have h1 := zi_rng x
    have h2 : (x.toInt.tdiv d.toInt).natAbs ≤ x.toInt.natAbs := Int.natAbs_tdiv_le_natAbs _ _
    by_cases hm : x.toInt.tdiv d.toInt = 2147483648
    · exfalso
      have h4 : x.toInt = -2147483648 := by omega
      have h5 : x.toInt.tdiv d.toInt ≤ 0 := by
        rw [h4, show (-2147483648 : Int) = -(2147483648 : Int) from rfl, Int.neg_tdiv]
        have := Int.tdiv_nonneg (a := 2147483648) (b := d.toInt) (by decide) (by omega)
        omega
      omega
    · exact Int.bmod_eq_of_le (by omega) (by omega)
  have e2 : x.toInt - x.toInt.tdiv d.toInt * d.toInt = x.toInt.tmod d.toInt := by
    have := Int.tmod_add_tdiv_mul x.toInt d.toInt
    omega
  have h6 : (x.toInt.tmod d.toInt).natAbs ≤ x.toInt.natAbs := by
    rw [Int.natAbs_tmod]
    exact Nat.mod_le _ _
  have h7 := zi_rng x
  have e3 : x - x / d * d = Int32.ofInt (x.toInt - x.toInt.tdiv d.toInt * d.toInt) := by
    rw [Int32.ofInt_sub, Int32.ofInt_mul, ← e1, Int32.ofInt_toInt, Int32.ofInt_toInt, Int32.ofInt_toInt]
  rw [e3, e2]
  have h8 := zi_rng d
  have h9 : (x.toInt.tmod d.toInt).natAbs < d.toInt.natAbs := by
    rw [Int.natAbs_tmod]
    exact Nat.mod_lt _ (by omega)
  exact z32_i (by omega)
theorem zrem_ok {rul : Nat → List zI} {e : Nat → Int} {S : zS} {a b : zA} {r : zS × zA} (h : zSat rul e S) (hr : zrem S a b = some r) : ¬ Int32.ofInt (zv e b) = 0 ∧ zres rul e S r (Int32.ofInt (zv e a) - Int32.ofInt (zv e a) / Int32.ofInt (zv e b) * Int32.ofInt (zv e b)) := by
  unfold zrem at hr
  by_cases c : b.2.1 = 0 ∧ 0 < b.2.2.2 ∧ b.2.2.2 ≤ 2147483647 ∧ z32 S.1 a = true
  · rw [if_pos c] at hr
    cases hr
    obtain ⟨c1, c2, c3, c4⟩ := c
    have hb : zv e b = b.2.2.2 := by unfold zv; rw [c1]; simp
    have hbi : (Int32.ofInt (zv e b)).toInt = b.2.2.2 := by rw [hb]; exact z32_i (by omega)
    have hai : (Int32.ofInt (zv e a)).toInt = zv e a := z32_i (zin_ok h.1 c4)
    refine ⟨fun z => ?_, znew_ok h ?_⟩
    · rw [z] at hbi
      have : (0 : Int32).toInt = 0 := by decide
      omega
    · rw [zrem_x (by omega), hbi, hai]
      have h1 : ((zv e a).tmod b.2.2.2).natAbs < b.2.2.2.natAbs := by
        rw [Int.natAbs_tmod]
        exact Nat.mod_lt _ (by omega)
      by_cases c5 : zin S.1 a 0 2147483647 = true
      · rw [if_pos c5]
        have h2 := Int.tmod_nonneg b.2.2.2 (zin_ok h.1 c5).1
        exact ⟨h2, by show _ ≤ b.2.2.2 - 1; omega⟩
      · rw [if_neg c5]
        exact ⟨by show 1 - b.2.2.2 ≤ _; omega, by show _ ≤ b.2.2.2 - 1; omega⟩
  · rw [if_neg c] at hr
    cases hr
