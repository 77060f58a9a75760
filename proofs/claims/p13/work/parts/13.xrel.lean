/-! ===== relations of an array's places: reading and writing ===== -/
def zmx1 (i : zI) : zI := (if i.1 ≤ 1 then 1 else i.1, i.2)
/-- the bounds of what is read -/
def zrb (rr : Nat) (S : zS) (fs : List zA) (b : zA) (i : zI) : zI :=
  if rr = 1 then (match fs with
    | [p, w] => if b.2.1 = p.2.1 ∧ b.2.2.1 = p.2.2.1 ∧ 0 ≤ b.2.2.2 - p.2.2.2 - 1 ∧ b.2.2.2 - p.2.2.2 - 1 < 3 ∧ zin S.1 w (b.2.2.2 - p.2.2.2) 2147483647 = true then zmx1 i else i
    | _ => i)
  else if rr = 2 then (match fs with
    | [n] => if b.2.1 = 0 ∧ 0 ≤ b.2.2.2 ∧ b.2.2.2 < 3 ∧ zin S.1 n (b.2.2.2 + 1) 2147483647 = true then zmx1 i else i
    | _ => i)
  else i
theorem zmx1_ok {i : zI} {x : Int} (h : i.1 ≤ x ∧ x ≤ i.2) (h1 : 1 ≤ x) : (zmx1 i).1 ≤ x ∧ x ≤ (zmx1 i).2 := by
  unfold zmx1
  by_cases c : i.1 ≤ 1
  · simp only [if_pos c]; exact ⟨h1, h.2⟩
  · simp only [if_neg c]; exact h
theorem zX_1 {f : Nat → Int32} {vs : List Int} (h : zX 1 f vs) : zX1 f vs := by unfold zX at h; simpa using h
theorem zX_2 {f : Nat → Int32} {vs : List Int} (h : zX 2 f vs) : zX2 f vs := by unfold zX at h; simpa using h
theorem zX_1i {f : Nat → Int32} {vs : List Int} (h : zX1 f vs) : zX 1 f vs := by unfold zX; simpa using h
theorem zX_2i {f : Nat → Int32} {vs : List Int} (h : zX2 f vs) : zX 2 f vs := by unfold zX; simpa using h
theorem zX_o {rr : Nat} {f : Nat → Int32} {vs : List Int} (h1 : ¬ rr = 1) (h2 : ¬ rr = 2) : zX rr f vs := by
  unfold zX
  rw [if_neg h1, if_neg h2]
  exact True.intro
theorem zrb_ok {rr j : Nat} {S : zS} {e : Nat → Int} {fs : List zA} {b : zA} {i : zI} {f : Nat → Int32} (hs : zS1 e S.1) (hx : zX rr f (fs.map (zv e))) (hj : (j : Int) = zv e b) (hi : i.1 ≤ (f j).toInt ∧ (f j).toInt ≤ i.2) : (zrb rr S fs b i).1 ≤ (f j).toInt ∧ (f j).toInt ≤ (zrb rr S fs b i).2 := by
  unfold zrb
  by_cases r1 : rr = 1
  · subst r1
    rw [if_pos rfl]
    have hx := zX_1 hx
    match fs, hx with
    | [], _ => exact hi
    | [_], _ => exact hi
    | [p, w], hx =>
      by_cases c : b.2.1 = p.2.1 ∧ b.2.2.1 = p.2.2.1 ∧ 0 ≤ b.2.2.2 - p.2.2.2 - 1 ∧ b.2.2.2 - p.2.2.2 - 1 < 3 ∧ zin S.1 w (b.2.2.2 - p.2.2.2) 2147483647 = true
      · simp only [if_pos c]
        obtain ⟨c1, c2, c3, c4, c5⟩ := c
        obtain ⟨hp, r, hr, hw⟩ := (show zPw f (-1) ∧ ∃ r : Nat, zv e p = ((13 * r + 9 : Nat) : Int) ∧ (f (13 * r + 9)).toInt = zv e w from hx)
        have hz := (zin_ok hs c5).1
        have e1 : zv e b = zv e p + (b.2.2.2 - p.2.2.2) := by unfold zv; rw [c1, c2]; omega
        obtain ⟨k, hk⟩ : ∃ k : Nat, (k : Int) = b.2.2.2 - p.2.2.2 - 1 := ⟨(b.2.2.2 - p.2.2.2 - 1).toNat, Int.toNat_of_nonneg c3⟩
        have hjk : j = 13 * r + 10 + k := by omega
        refine zmx1_ok hi ?_
        rcases hp r k (by omega) (by omega) with h9 | h9
        · omega
        · rw [hjk]; exact h9
      · simp only [if_neg c]
        exact hi
    | _ :: _ :: _ :: _, _ => exact hi
  · rw [if_neg r1]
    by_cases r2 : rr = 2
    · subst r2
      rw [if_pos rfl]
      have hx := zX_2 hx
      match fs, hx with
      | [], _ => exact hi
      | [n], hx =>
        by_cases c : b.2.1 = 0 ∧ 0 ≤ b.2.2.2 ∧ b.2.2.2 < 3 ∧ zin S.1 n (b.2.2.2 + 1) 2147483647 = true
        · simp only [if_pos c]
          obtain ⟨c1, c2, c3, c4⟩ := c
          have hz := (zin_ok hs c4).1
          have e1 : zv e b = b.2.2.2 := by unfold zv; rw [c1]; simp
          exact zmx1_ok hi ((show ∀ k : Nat, k < 3 → (k : Int) < zv e n → 1 ≤ (f k).toInt from hx) j (by omega) (by omega))
        · simp only [if_neg c]
          exact hi
      | _ :: _ :: _, _ => exact hi
    · rw [if_neg r2]
      exact hi
/-- what is known behind a read -/
def zrp (rr : Nat) (b v : zA) (fs : List zA) : List zA := if rr = 1 ∧ fs.length < 3 ∧ b.2.1 % 13 = 0 ∧ b.2.2.2 % 13 = 9 then [b, v] else fs
theorem z13 {e : Nat → Int} {b : zA} {j : Nat} (hj : (j : Int) = zv e b) (h : b.2.1 % 13 = 0) : ((j % 13 : Nat) : Int) = b.2.2.2 % 13 := by
  have := zidx (n := 13) (k := b.2.1) (v := e b.2.2.1) (c := b.2.2.2) hj h
  rw [this]
  exact Int.toNat_of_nonneg (Int.emod_nonneg _ (by decide))
theorem zX1_pw {f : Nat → Int32} {vs : List Int} (h : zX1 f vs) (hl : vs.length < 3) : zPw f (-1) := by
  match vs, h, hl with
  | [], h, _ => exact h
  | [_], h, _ => exact h.elim
  | [_, _], h, _ => exact h.1
  | _ :: _ :: _ :: _, _, hl => simp at hl; omega
theorem zrp_ok {rr j : Nat} {e : Nat → Int} {fs : List zA} {b v : zA} {f : Nat → Int32} (hx : zX rr f (fs.map (zv e))) (hj : (j : Int) = zv e b) (hv : zv e v = (f j).toInt) : zX rr f ((zrp rr b v fs).map (zv e)) := by
  unfold zrp
  by_cases c : rr = 1 ∧ fs.length < 3 ∧ b.2.1 % 13 = 0 ∧ b.2.2.2 % 13 = 9
  · rw [if_pos c]
    obtain ⟨rfl, c1, c2, c3⟩ := c
    have h13 := z13 hj c2
    refine zX_1i (show zPw f (-1) ∧ ∃ r : Nat, zv e b = ((13 * r + 9 : Nat) : Int) ∧ (f (13 * r + 9)).toInt = zv e v from ⟨zX1_pw (zX_1 hx) (by rw [List.length_map]; exact c1), j / 13, by omega, ?_⟩)
    rw [hv]
    congr 2
    omega
  · rw [if_neg c]
    exact hx
theorem zrp_wf {n rr : Nat} {b v : zA} {fs : List zA} (h : ∀ a ∈ fs, zwf n a) (hb : zwf n b) (hv : zwf n v) : ∀ a ∈ zrp rr b v fs, zwf n a := by
  unfold zrp
  intro a ha
  split at ha
  · rcases List.mem_cons.mp ha with rfl | ha
    · exact hb
    · rw [List.mem_singleton.mp ha]; exact hv
  · exact h a ha
/-- what is known behind a write -/
def zwp (rr : Nat) (S : zS) (b d : zA) (fs : List zA) : Option (List zA) :=
  if rr = 1 then (if b.2.1 % 13 = 0 then
      (if b.2.2.2 % 13 < 9 then some fs
      else if b.2.2.2 % 13 = 9 then (if fs.length < 3 ∧ z32 S.1 d = true then some [b, d, (0, 0, 0, 0)] else none)
      else match fs with
        | [p, w, j] => if j.2.1 = 0 ∧ 0 ≤ j.2.2.2 ∧ j.2.2.2 < 3 ∧ b.2.1 = p.2.1 ∧ b.2.2.1 = p.2.2.1 ∧ b.2.2.2 = p.2.2.2 + 1 + j.2.2.2 ∧ zin S.1 d 1 2147483647 = true then some [p, w, (0, 0, 0, j.2.2.2 + 1)] else none
        | _ => none) else none)
  else if rr = 2 then (match fs with
    | [n] => if b.2.1 = n.2.1 ∧ b.2.2.1 = n.2.2.1 ∧ b.2.2.2 = n.2.2.2 ∧ zin S.1 d 1 2147483647 = true then some [(0, n.2.1, n.2.2.1, n.2.2.2 + 1)] else none
    | _ => none)
  else some fs
theorem zwp_ok {rr j : Nat} {S : zS} {e : Nat → Int} {fs fs' : List zA} {b d : zA} {f g : Nat → Int32} (hs : zS1 e S.1) (hx : zX rr f (fs.map (zv e))) (hj : (j : Int) = zv e b) (h : zwp rr S b d fs = some fs') (hg : g j = Int32.ofInt (zv e d)) (hn : ∀ i, ¬ i = j → g i = f i) : zX rr g (fs'.map (zv e)) := by
  unfold zwp at h
  by_cases r1 : rr = 1
  · subst r1
    rw [if_pos rfl] at h
    have hx := zX_1 hx
    refine zX_1i ?_
    by_cases c0 : b.2.1 % 13 = 0
    · rw [if_pos c0] at h
      have h13 := z13 hj c0
      by_cases c1 : b.2.2.2 % 13 < 9
      · rw [if_pos c1] at h
        cases h
        have hpw : ∀ q : Int, zPw f q → zPw g q := fun q hq r k hk hr => by
          rw [hn _ (by omega), hn _ (by omega)]
          exact hq r k hk hr
        match fs, hx with
        | [], hx => exact hpw _ hx
        | [_], hx => exact hx.elim
        | [p, w], hx =>
          obtain ⟨hp, r, hr, hw⟩ := (show zPw f (-1) ∧ ∃ r : Nat, zv e p = ((13 * r + 9 : Nat) : Int) ∧ (f (13 * r + 9)).toInt = zv e w from hx)
          exact (show zPw g (-1) ∧ ∃ r : Nat, zv e p = ((13 * r + 9 : Nat) : Int) ∧ (g (13 * r + 9)).toInt = zv e w from ⟨hpw _ hp, r, hr, by rw [hn _ (by omega)]; exact hw⟩)
        | [p, w, q], hx =>
          obtain ⟨r, hr, hp, hw, hk⟩ := (show ∃ r : Nat, zv e p = ((13 * r + 9 : Nat) : Int) ∧ zPw f (zv e p) ∧ (f (13 * r + 9)).toInt = zv e w ∧ ∀ k : Nat, k < 3 → (k : Int) < zv e q → 1 ≤ (f (13 * r + 10 + k)).toInt from hx)
          exact (show ∃ r : Nat, zv e p = ((13 * r + 9 : Nat) : Int) ∧ zPw g (zv e p) ∧ (g (13 * r + 9)).toInt = zv e w ∧ ∀ k : Nat, k < 3 → (k : Int) < zv e q → 1 ≤ (g (13 * r + 10 + k)).toInt from ⟨r, hr, hpw _ hp, by rw [hn _ (by omega)]; exact hw, fun k k3 kq => by rw [hn _ (by omega)]; exact hk k k3 kq⟩)
        | _ :: _ :: _ :: _ :: _, hx => exact hx.elim
      · rw [if_neg c1] at h
        by_cases c2 : b.2.2.2 % 13 = 9
        · rw [if_pos c2] at h
          by_cases c3 : fs.length < 3 ∧ z32 S.1 d = true
          · rw [if_pos c3] at h
            cases h
            have hp := zX1_pw hx (by rw [List.length_map]; exact c3.1)
            have hz : (Int32.ofInt (zv e d)).toInt = zv e d := z32_i (zin_ok hs c3.2)
            have hj9 : j = 13 * (j / 13) + 9 := by omega
            refine (show ∃ r : Nat, zv e b = ((13 * r + 9 : Nat) : Int) ∧ zPw g (zv e b) ∧ (g (13 * r + 9)).toInt = zv e d ∧ ∀ k : Nat, k < 3 → (k : Int) < zv e (0, 0, 0, 0) → 1 ≤ (g (13 * r + 10 + k)).toInt from ⟨j / 13, by omega, fun r k hk hr => ?_, by rw [← hj9, hg, hz], fun k _ hk => ?_⟩)
            · rw [hn _ (by omega), hn _ (by omega)]
              exact hp r k hk (by omega)
            · have : zv e (0, 0, 0, 0) = 0 := by unfold zv; simp
              omega
          · rw [if_neg c3] at h
            cases h
        · rw [if_neg c2] at h
          match fs, hx, h with
          | [], _, h => cases h
          | [_], _, h => cases h
          | [_, _], _, h => cases h
          | _ :: _ :: _ :: _ :: _, _, h => cases h
          | [p, w, q], hx, h =>
            simp only at h
            by_cases c4 : q.2.1 = 0 ∧ 0 ≤ q.2.2.2 ∧ q.2.2.2 < 3 ∧ b.2.1 = p.2.1 ∧ b.2.2.1 = p.2.2.1 ∧ b.2.2.2 = p.2.2.2 + 1 + q.2.2.2 ∧ zin S.1 d 1 2147483647 = true
            · rw [if_pos c4] at h
              cases h
              obtain ⟨q1, q2, q3, q4, q5, q6, q7⟩ := c4
              obtain ⟨r, hr, hp, hw, hk⟩ := (show ∃ r : Nat, zv e p = ((13 * r + 9 : Nat) : Int) ∧ zPw f (zv e p) ∧ (f (13 * r + 9)).toInt = zv e w ∧ ∀ k : Nat, k < 3 → (k : Int) < zv e q → 1 ≤ (f (13 * r + 10 + k)).toInt from hx)
              have e1 : zv e b = zv e p + (1 + q.2.2.2) := by unfold zv; rw [q4, q5, q6]; omega
              have e2 : zv e q = q.2.2.2 := by unfold zv; rw [q1]; simp
              have e3 : zv e (0, 0, 0, q.2.2.2 + 1) = q.2.2.2 + 1 := by unfold zv; simp
              have hd := zin_ok hs q7
              have hz : (Int32.ofInt (zv e d)).toInt = zv e d := z32_i ⟨by omega, by omega⟩
              refine (show ∃ r : Nat, zv e p = ((13 * r + 9 : Nat) : Int) ∧ zPw g (zv e p) ∧ (g (13 * r + 9)).toInt = zv e w ∧ ∀ k : Nat, k < 3 → (k : Int) < zv e (0, 0, 0, q.2.2.2 + 1) → 1 ≤ (g (13 * r + 10 + k)).toInt from ⟨r, hr, fun r2 k2 hk2 hr2 => ?_, by rw [hn _ (by omega)]; exact hw, fun k k3 kq => ?_⟩)
              · rw [hn _ (by omega), hn _ (by omega)]
                exact hp r2 k2 hk2 hr2
              · by_cases hkj : 13 * r + 10 + k = j
                · rw [hkj, hg, hz]
                  exact hd.1
                · rw [hn _ hkj]
                  exact hk k k3 (by omega)
            · rw [if_neg c4] at h
              cases h
    · rw [if_neg c0] at h
      cases h
  · rw [if_neg r1] at h
    by_cases r2 : rr = 2
    · subst r2
      rw [if_pos rfl] at h
      have hx := zX_2 hx
      refine zX_2i ?_
      match fs, hx, h with
      | [], _, h => cases h
      | _ :: _ :: _, _, h => cases h
      | [n], hx, h =>
        simp only at h
        by_cases c4 : b.2.1 = n.2.1 ∧ b.2.2.1 = n.2.2.1 ∧ b.2.2.2 = n.2.2.2 ∧ zin S.1 d 1 2147483647 = true
        · rw [if_pos c4] at h
          cases h
          obtain ⟨q1, q2, q3, q4⟩ := c4
          have hd := zin_ok hs q4
          have hz : (Int32.ofInt (zv e d)).toInt = zv e d := z32_i ⟨by omega, by omega⟩
          have e1 : zv e b = zv e n := by unfold zv; rw [q1, q2, q3]
          have e2 : zv e (0, n.2.1, n.2.2.1, n.2.2.2 + 1) = zv e n + 1 := by unfold zv; simp only; omega
          refine (show ∀ k : Nat, k < 3 → (k : Int) < zv e (0, n.2.1, n.2.2.1, n.2.2.2 + 1) → 1 ≤ (g k).toInt from fun k k3 kn => ?_)
          by_cases hkj : k = j
          · rw [hkj, hg, hz]
            exact hd.1
          · rw [hn _ hkj]
            exact (show ∀ k : Nat, k < 3 → (k : Int) < zv e n → 1 ≤ (f k).toInt from hx) k k3 (by omega)
        · rw [if_neg c4] at h
          cases h
    · exact zX_o r1 r2
theorem zwp_wf {n rr : Nat} {S : zS} {b d : zA} {fs fs' : List zA} (h : zwp rr S b d fs = some fs') (hf : ∀ a ∈ fs, zwf n a) (hb : zwf n b) (hd : zwf n d) : ∀ a ∈ fs', zwf n a := by
  unfold zwp at h
  by_cases r1 : rr = 1
  · rw [if_pos r1] at h
    by_cases c0 : b.2.1 % 13 = 0
    · rw [if_pos c0] at h
      by_cases c1 : b.2.2.2 % 13 < 9
      · rw [if_pos c1] at h
        cases h
        exact hf
      · rw [if_neg c1] at h
        by_cases c2 : b.2.2.2 % 13 = 9
        · rw [if_pos c2] at h
          split at h
          · cases h
            intro a ha
            rcases List.mem_cons.mp ha with rfl | ha
            · exact hb
            · rcases List.mem_cons.mp ha with rfl | ha
              · exact hd
              · rw [List.mem_singleton.mp ha]; exact Or.inl rfl
          · cases h
        · rw [if_neg c2] at h
          split at h
          · rename_i p w j
            split at h
            · cases h
              intro a ha
              rcases List.mem_cons.mp ha with rfl | ha
              · exact hf _ List.mem_cons_self
              · rcases List.mem_cons.mp ha with rfl | ha
                · exact hf _ (List.mem_cons_of_mem _ List.mem_cons_self)
                · rw [List.mem_singleton.mp ha]; exact Or.inl rfl
            · cases h
          · cases h
    · rw [if_neg c0] at h
      cases h
  · rw [if_neg r1] at h
    by_cases r2 : rr = 2
    · rw [if_pos r2] at h
      split at h
      · rename_i n9
        split at h
        · cases h
          intro a ha
          rw [List.mem_singleton.mp ha]
          exact hf n9 (List.mem_singleton.mpr rfl)
        · cases h
      · cases h
    · rw [if_neg r2] at h
      cases h
      exact hf
/-- a pattern that says less -/
def zxle (S : zS) (rr : Nat) (fc fd : List zA) : Bool :=
  if rr = 1 then decide (fc = []) && (match fd with
    | [] => true
    | [_, _] => true
    | [_, w, j] => decide (j.2.1 = 0) && zin S.1 w (-2147483648) j.2.2.2
    | _ => false)
  else if rr = 2 then decide (fc = [(0, 0, 0, 0)]) else false
theorem zxle_ok {S : zS} {rr : Nat} {e : Nat → Int} {fc fd : List zA} {f : Nat → Int32} (hs : zS1 e S.1) (h : zxle S rr fc fd = true) (hx : zX rr f (fd.map (zv e))) : zX rr f (fc.map (zv e)) := by
  unfold zxle at h
  by_cases r1 : rr = 1
  · subst r1
    rw [if_pos rfl] at h
    simp only [Bool.and_eq_true, decide_eq_true_eq] at h
    obtain ⟨rfl, h⟩ := h
    have hx := zX_1 hx
    refine zX_1i (show zPw f (-1) from ?_)
    match fd, hx, h with
    | [], hx, _ => exact hx
    | [_], hx, _ => exact hx.elim
    | [_, _], hx, _ => exact hx.1
    | _ :: _ :: _ :: _ :: _, hx, _ => exact hx.elim
    | [p, w, j], hx, h =>
      simp only [Bool.and_eq_true, decide_eq_true_eq] at h
      obtain ⟨r, hr, hp, hw, hk⟩ := (show ∃ r : Nat, zv e p = ((13 * r + 9 : Nat) : Int) ∧ zPw f (zv e p) ∧ (f (13 * r + 9)).toInt = zv e w ∧ ∀ k : Nat, k < 3 → (k : Int) < zv e j → 1 ≤ (f (13 * r + 10 + k)).toInt from hx)
      have e2 : zv e j = j.2.2.2 := by unfold zv; rw [h.1]; simp
      have hz := (zin_ok hs h.2).2
      intro r2 k2 hk2 hr2
      by_cases hrr : r2 = r
      · subst hrr
        by_cases hkj : (k2 : Int) < zv e j
        · exact Or.inr (hk k2 hk2 hkj)
        · exact Or.inl (by omega)
      · exact hp r2 k2 hk2 (by omega)
  · rw [if_neg r1] at h
    by_cases r2 : rr = 2
    · subst r2
      rw [if_pos rfl] at h
      rw [of_decide_eq_true h]
      refine zX_2i (show ∀ k : Nat, k < 3 → (k : Int) < zv e (0, 0, 0, 0) → 1 ≤ (f k).toInt from fun k _ hk => ?_)
      have : zv e (0, 0, 0, 0) = 0 := by unfold zv; simp
      omega
    · rw [if_neg r2] at h
      cases h
