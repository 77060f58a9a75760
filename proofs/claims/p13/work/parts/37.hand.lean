/-! ===== catching: the law's own tables ===== -/
/-- the words of a table's rows, and which rows are passed on the way -/
def zhk1 (q : Nat × Nat × Nat × Nat) : Bool := decide (zcx q.2.2.2 < 3) && decide (¬ q.2.2.2 = 0) && decide (Cond.classLink RL q.2.2.2 (zen (zcx q.2.2.2)) ∈ lw_tbl) && goodWord (Cond.classLink RL q.2.2.2 (zen (zcx q.2.2.2)))
def zhk2 (z q : Nat × Nat × Nat × Nat) : Bool := decide (zcx z.2.2.2 = zcx q.2.2.2) || decide ((zen (zcx q.2.2.2), zen (zcx z.2.2.2)) ∈ zncs)
def zhk : List (Nat × Nat × Nat × Nat) → Bool
  | [] => true
  | z :: l => zhk1 z && l.all (zhk2 z) && zhk l
def zhkm (i : Nat) : Bool := zhk (zhh i) && (decide (zhh i = []) || decide ((zy i).cls = RL))
theorem zhk_split : ∀ {l : List (Nat × Nat × Nat × Nat)} {pc x hp : Nat}, zhk l = true → zfh l pc x = some hp → ∃ (pre : List (Nat × Nat × Nat × Nat)) (q : Nat × Nat × Nat × Nat) (suf : List (Nat × Nat × Nat × Nat)), l = pre ++ q :: suf ∧ q.1 ≤ pc ∧ pc < q.2.1 ∧ zcx q.2.2.2 = x ∧ q.2.2.1 = hp ∧ zhk1 q = true ∧ ∀ z ∈ pre, (¬ (z.1 ≤ pc ∧ pc < z.2.1)) ∨ (zhk1 z = true ∧ (zen x, zen (zcx z.2.2.2)) ∈ zncs)
  | [], pc, x, hp, _, h => by cases h
  | z :: l, pc, x, hp, hk, h => by
    unfold zhk at hk
    simp only [Bool.and_eq_true] at hk
    obtain ⟨⟨k1, k2⟩, k3⟩ := hk
    unfold zfh at h
    have hrec : ∀ hz : (¬ (z.1 ≤ pc ∧ pc < z.2.1)) ∨ ¬ zcx z.2.2.2 = x, zfh l pc x = some hp → ∃ (pre : List (Nat × Nat × Nat × Nat)) (q : Nat × Nat × Nat × Nat) (suf : List (Nat × Nat × Nat × Nat)), z :: l = pre ++ q :: suf ∧ q.1 ≤ pc ∧ pc < q.2.1 ∧ zcx q.2.2.2 = x ∧ q.2.2.1 = hp ∧ zhk1 q = true ∧ ∀ z ∈ pre, (¬ (z.1 ≤ pc ∧ pc < z.2.1)) ∨ (zhk1 z = true ∧ (zen x, zen (zcx z.2.2.2)) ∈ zncs) := by
      intro hz h
      obtain ⟨pre, q, suf, e1, e2, e3, e4, e5, e6, e7⟩ := zhk_split k3 h
      refine ⟨z :: pre, q, suf, by rw [e1]; rfl, e2, e3, e4, e5, e6, fun y hy => ?_⟩
      rcases List.mem_cons.mp hy with rfl | hy
      · rcases hz with hz | hz
        · exact Or.inl hz
        · have hq := List.all_eq_true.mp k2 q (by rw [e1]; exact List.mem_append_right _ List.mem_cons_self)
          unfold zhk2 at hq
          simp only [Bool.or_eq_true, decide_eq_true_eq] at hq
          rcases hq with hq | hq
          · exact absurd (hq.trans e4) hz
          · rw [e4] at hq
            exact Or.inr ⟨k1, hq⟩
      · exact e7 y hy
    by_cases c1 : z.1 ≤ pc ∧ pc < z.2.1
    · rw [if_pos c1] at h
      by_cases c2 : zcx z.2.2.2 = x
      · rw [if_pos c2] at h
        cases h
        exact ⟨[], z, l, rfl, c1.1, c1.2, c2, rfl, k1, fun y hy => (nomatch hy)⟩
      · rw [if_neg c2] at h
        exact hrec (Or.inr c2) h
    · rw [if_neg c1] at h
      exact hrec (Or.inl c1) h
theorem zhk_all : ∀ i, zhkm i = true := by
  intro i
  by_cases h : i < 120
  · have : (List.range 120).all zhkm = true := by decide +kernel
    exact List.all_eq_true.mp this i (List.mem_range.mpr h)
  · have : zhh i = [] := by
      unfold zhh
      split <;> first | rfl | omega
    unfold zhkm
    rw [this]
    rfl
theorem zcast : ∀ x, x < 3 → Cond.castable (zen x) (zen x) ∈ zTx := by decide +kernel
theorem zcatch_ok {D : va_G} {cy : Nat → ClassId} {A : Nat → Prop} {sa : Nat → Nat} : zCatch D cy A sa := by
  intro i pc hp x p l ev R s m args below meth c H locs cells slots Q ls rest q ce hat hfh hx3 hce hcv hcl kk
  obtain ⟨hx, hcb, hml, hown, hts, hK, hF, hlk, hr, het, hA⟩ := hat
  have hk := zhk_all i
  unfold zhkm at hk
  simp only [Bool.and_eq_true, Bool.or_eq_true, decide_eq_true_eq] at hk
  obtain ⟨pre, z, suf, e1, e2, e3, e4, e5, e6, e7⟩ := zhk_split hk.1 hfh
  have hne : ¬ zhh i = [] := fun h0 => by rw [h0] at e1; cases pre <;> cases e1
  have hcls := hk.2.resolve_left hne
  rw [hcls] at hown
  rw [if_neg hne, e1] at het
  have hlk1 : ∀ y : Nat × Nat × Nat × Nat, zhk1 y = true → ¬ y.2.2.2 = 0 ∧ (Cond.classLink RL y.2.2.2 (zen (zcx y.2.2.2))).before args s = true := fun y hy => by
    unfold zhk1 at hy
    simp only [Bool.and_eq_true, decide_eq_true_eq] at hy
    exact ⟨hy.1.1.2, hts _ (List.mem_filter.mpr ⟨hy.1.2, hy.2⟩)⟩
  have hw := zcast x hx3
  refine vx_catch (E := zen x) (name := zen x) hown (tableOf pre) ⟨z.1, z.2.1, z.2.2.1, z.2.2.2⟩ (tableOf suf) ?_ ?_ ?_ (hlk1 z e6).1 ?_ (va_Nw.use rfl (hF.2.2.2.1 _ hw)) hce hcv hcl (by show W _ _ _ _ _ _ _ _ _ _ _ _ _ _ _ (F0 m z.2.2.1 ls [.ref q]); rw [e5]; exact kk)
  · rw [het]
    unfold tableOf
    rw [List.map_append, List.map_cons]
  · intro y hy
    unfold tableOf at hy
    obtain ⟨w, hw1, rfl⟩ := List.mem_map.mp hy
    rcases e7 w hw1 with h9 | ⟨h9, h10⟩
    · refine Or.inl ?_
      show (decide (w.1 ≤ pc) && decide (pc < w.2.1)) = false
      rw [← Bool.decide_and]
      exact decide_eq_false h9
    · exact Or.inr ⟨(hlk1 w h9).1, _, (hlk1 w h9).2, hF.2.2.2.2 _ h10⟩
  · show (decide (z.1 ≤ pc) && decide (pc < z.2.1)) = true
    rw [decide_eq_true e2, decide_eq_true e3]
    rfl
  · have := (hlk1 z e6).2
    rw [e4] at this
    exact this
