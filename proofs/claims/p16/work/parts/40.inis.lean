/-! ===== the constructors' walk is right ===== -/
section ZI
variable {l : Launch} {D : va_G} {cy : Nat → ClassId} {A : Nat → Prop} {sa : Nat → Nat} {G : zCf} {rul rc : Nat → List zI} {alc : Nat → zC}
theorem zgr_at (ad : Nat → Nat) (n : Nat) (es : va_W) {j : Nat} {x : Nat × va_E} (h : es[j]? = some x) : zgr ad n es (n + j) = x.1 := by
  unfold zgr
  rw [if_pos (by omega), show n + j - n = j by omega, h]
theorem zrul_cls {s : State} {cA cB : ClassId} {ty : FieldType} (h1 : va_RA s cA ty) (h2 : va_RA s cB ty) : cA = cB := by
  cases ty with
  | object C =>
    obtain ⟨_, _, _, _, _, g1⟩ := h1
    obtain ⟨_, _, _, _, _, g2⟩ := h2
    exact Option.some.inj (g1.symm.trans g2)
  | _ => exact Option.some.inj (Eq.trans (Eq.symm h1) h2)
/-- a callee's contract out of its walk -/
theorem zmi_of {n j : Nat} {as : List zA} {h : List zC} {kh : List zC → Bool} {e : Nat → Int} {ad : Nat → Nat} {ws : va_W} (HV : zOK) (hni : ¬ j = 119) (hrt : zret j = none) (hhh : zhh j = []) (hpn : plainName (zy j).cls = true) (IH : zIS l D cy A sa G rul rc alc n)
    (hk : zini G rc alc n j 0 (zent 0 as) [] h 0 0 (fun _ _ st' h' _ _ => decide (st' = []) && kh h') = true) (htg : ∀ a ∈ as, ¬ a.1 = 1) (hlen : as.length ≤ zmaxL j) (hwf : ∀ a ∈ as, zwf 0 a) (hwh : ∀ c ∈ h, ∀ a ∈ c.2.2.2.2, zwf 0 a) (hR : zHR rul cy e ad h ws) (hD : va_D A ws) (h43 : h.length ≤ 43) :
    zMi l D cy A sa G rul j kh h.length ad ws (zst e ad as) := by
  refine Met.ofW (cc := zcode j) (maxL := zmaxL j) (ret := zret j) (ws' := zTg) hpn (by unfold zws zcw; rw [if_pos hhh]) ?_
  intro p ev s m args below meth c s₁ B hml hv
  have hts := atoms_spec (ws := zws j) B.pre
  obtain ⟨⟨rfl, hP, hK, hF, hA⟩, hF2⟩ := hv
  have het : c.exceptionTable.toList = [] := by
    obtain ⟨meth9, c9, h1, h2, -, -, -, -, h7, -⟩ := Cond.code_spec B.named (show (Cond.code (zy j) (zcode j) (zmaxL j) (zret j)).before _ s = true by have := hts (zcw j) List.mem_cons_self; unfold zcw at this; rw [if_pos hhh] at this; exact this)
    cases Option.some.inj (h1.symm.trans B.method)
    cases Option.some.inj (h2.symm.trans (Stand.of_body B).code)
    rw [Array.isEmpty_iff.mp h7]
  have hat : zAt D cy A sa j p s m (zst e ad as).toArray meth c := ⟨B.exec, B.bytes, hml, findClass_of_methodNamed B.named, fun w hw => hts w (List.mem_cons_of_mem _ hw), hK, hF, B.notSynchronized, B.returns, by rw [if_pos hhh]; exact het, hA⟩
  have hnm : meth.name = (zy j).name := (name_of_methodNamed B.named B.method).1
  have hl := lv_entry (zst e ad as) (n := zmaxL j) (by rw [zlg_len e ad as htg]; exact hlen)
  rw [lg_entry_eq]
  generalize (lg_sl (zst e ad as) ++ List.replicate (zmaxL j - (lg_sl (zst e ad as)).length) Slot.unset).toArray = ls at hl ⊢
  rw [zlv_args e ad 0 as htg] at hl
  have hwe : ∀ (n : Nat) (l : List zA), (∀ a ∈ l, zwf 0 a) → ∀ q ∈ zent n l, zwf 0 q.2 := by
    intro n l
    induction l generalizing n with
    | nil => intro _ q hq; cases hq
    | cons a r ih =>
      intro hw q hq
      rcases List.mem_cons.mp hq with h1 | h1
      · rw [h1]; exact hw a List.mem_cons_self
      · exact ih (n + 1) (fun b hb => hw b (List.mem_cons_of_mem _ hb)) q h1
  have hb1 : zbc G j = G.2.2.1 j := by unfold zbc; rw [if_neg hni]
  have hb2 : zbs G j = G.2.2.2.1 j := by unfold zbs; rw [if_neg hni]
  have hw := IH j 0 (zent 0 as) [] h 0 0 _ hk p ev s m (zst e ad as).toArray below meth c (MQ below (va_Qv (S := zU) (fun u => kh u.2.2.1 = true) (zBi rul D cy A h.length ad) A) (zst e ad as).toArray s (G.2.2.1 j) (G.2.2.2.1 j) A) h.length ad e ad ws s.heap [] ls 0 0 (G.2.2.1 j) (G.2.2.2.1 j) hat (fun q => absurd q hni) hF2 hnm
    ⟨⟨fun v i hv => by simp at hv, fun q hq => (nomatch hq), fun q hq => (nomatch hq)⟩, hwe 0 as hwf, fun a ha => (nomatch ha), hwh, hR, hP, hD, va_S.rf, hl⟩ (zaa_rf _ _) (Nat.le_refl _) h43 (by rw [hb1]; omega) (by rw [hb2]; omega) (Nat.zero_le _) (Nat.zero_le _) ?_
  · exact hw
  · intro pc' lc' st' h' nc' ns' e' ad' ws' H' locs' ls' hk' hst hz hn hl43 hnc hns hi'
    simp only [Bool.and_eq_true, decide_eq_true_eq] at hk'
    obtain ⟨rfl, hk'⟩ := hk'
    rcases hst with ⟨o, ho, ho33⟩ | ⟨h1, -⟩
    · have hg := (HV j pc' o ho).1
      unfold zgd at hg
      simp only [ho33, decide_eq_true_eq] at hg
      refine W.widen (k := G.2.2.1 j) (n := G.2.2.2.1 j) (by omega) (by omega) ?_
      have hr := B.returns
      rw [hrt] at hr
      exact W.vret (hlocks := B.notSynchronized) B.exec B.bytes hr (fun t ht _ => ⟨⟨(ad', e', h', ws'), rfl, hk', hz, hn, hl43, hi'.2.2.2.1, hi'.2.2.2.2.1, hi'.2.2.2.2.2.2.1, by show va_P D vwCl ws' t.heap; rw [ht]; exact hi'.2.2.2.2.2.1⟩, hi'.2.2.2.2.2.2.2.1.F ht⟩) hi'.2.2.2.2.2.2.2.1.2.2 hg
    · exact absurd h1 hni
end ZI
