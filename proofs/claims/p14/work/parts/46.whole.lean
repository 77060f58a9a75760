/-! ===== THE LAW, from its entry ===== -/
theorem zroom : room_1 = zrM zG 119 601024 7293034 := rfl
theorem zcode_law : code = zcode 119 := rfl
def zruS (L : Nat) (xs : Nat → Int32) (r : Nat) : List zI := if r = 100 then (List.range L).map (fun j => ((xs j).toInt, (xs j).toInt)) else if r = 101 then [((L : Int), (L : Int))] else zRul r
set_option maxHeartbeats 4000000 in
theorem whole_start {p : Program} {e : Env} {s : State} {m : MethodId} {below : List Frame} {meth : Method} {c : Code} (l : Launch) (hl0 : l.stackTraces = false) (het : c.exceptionTable.toList = []) (hnm : meth.name = "law") {b L : Nat} {xs : Nat → Int32} (hL : L ≤ 3072) (C0 : lw_At p s m meth c b L xs) : W p l e room_1 s m #[Value.ref b] below meth c s.heap [] 0 0 (lw_Z below #[Value.ref b] s) (entryFrame m ([Value.ref b] : List Value).toArray 7) := by
  obtain ⟨hx, hb, hr, hml, hown, hts, hX, hbl, hlocks, hgv⟩ := C0
  rw [zroom]
  obtain ⟨A, hAd⟩ : ∃ A : Nat → Prop, A = fun q => s.heap.size ≤ q := ⟨_, rfl⟩
  have hA : ∀ q : Nat, s.heap.size ≤ q → A q := fun q hq => by rw [hAd]; exact hq
  have hA2 : ∀ q : Nat, A q → s.heap.size ≤ q := fun q hq => by rw [hAd] at hq; exact hq
  have hA3 : ∀ q : Nat, q < s.heap.size → ¬ A q := fun q hq h => by have := hA2 q h; omega
  obtain ⟨D, cy, hK⟩ := zb_K hts
  obtain ⟨sa, hF⟩ := zb_F (A := A) hts hgv hA3
  have hF2 := zb_F2 hts
  have hat : zAt D cy A sa 119 p s m #[Value.ref b] meth c := ⟨hx, hb.trans zcode_law, hml, hown, fun w hw => hts w (List.mem_filter.mp hw).1, hK, hF, hlocks, hr, by rw [if_pos (by rfl)]; exact het, hA⟩
  have hrl : ∀ r, r < 100 → zRul r = zruS L xs r := fun r hr => by unfold zruS; rw [if_neg (by omega), if_neg (by omega)]
  have hsc : ∀ ad : Nat → Nat, ad 43 = b → zSc (zruS L xs) ad A s := fun ad hd => ⟨L, xs, hL, by unfold zruS; rw [if_neg (by decide), if_pos rfl], by unfold zruS; rw [if_pos rfl], by rw [hd]; exact hX, by rw [hd]; exact hbl, by rw [hd]; exact hA3 b hbl⟩
  have hl := lv_entry ([.ref b]) (n := 7) (Nat.le_of_ble_eq_true rfl)
  rw [lg_entry_eq]
  generalize (lg_sl ([.ref b]) ++ List.replicate (7 - (lg_sl ([.ref b])).length) Slot.unset).toArray = ls at hl ⊢
  have hl : lv_has ls 7 (zlv (fun _ => 0) (fun _ => b) [(0, (2, 0, 43, 0))]) := hl
  have hi : zInv (zruS L xs) D cy (fun _ => b) A (zmaxL 119) s.heap (fun _ => 0) [(0, (2, 0, 43, 0))] [] [] ([], [], []) [] s.heap [] ls :=
    ⟨⟨fun v i hv => by simp at hv, fun q hq => (nomatch hq), fun q hq => (nomatch hq)⟩, fun q hq => by rw [List.mem_singleton.mp hq]; exact Or.inl rfl, fun a ha => (nomatch ha), fun c hc => (nomatch hc), ⟨rfl, fun i c hc => by simp at hc⟩, fun k q h => by simp at h, ⟨fun i j p q h => by simp at h, fun k q h => by simp at h⟩, va_S.rf, hl⟩
  have IS := zini_ok (l := l) (D := D) (cy := cy) (A := A) (sa := sa) (G := zG) (rul := zruS L xs) (rc := zRul) (alc := zalc) hrl zok_all zoki_all zcl_ok 400
  refine IS 119 0 [(0, (2, 0, 43, 0))] [] [] 0 0 zli zli_run p e s m #[Value.ref b] below meth c (lw_Z below #[Value.ref b] s) 0 (fun _ => b) (fun _ => 0) (fun _ => b) [] s.heap [] ls 0 0 601024 7293034 hat (fun _ => hsc _ rfl) hF2 hnm hi (zaa_rf _ _) (Nat.le_refl _) (Nat.zero_le _) (by decide) (by decide) (Nat.zero_le _) (Nat.zero_le _) ?_
  intro pc' lc' st' h' nc' ns' e' ad' ws' H' locs' ls' hk' _ hz _ _ _ _ hI
  unfold zli at hk'
  simp only [Bool.and_eq_true, decide_eq_true_eq] at hk'
  obtain ⟨⟨⟨⟨⟨rfl, rfl⟩, hnc⟩, hns⟩, hmt⟩, hfc⟩ := hk'
  obtain ⟨hI1, -⟩ := zmt_ok hmt hI
  have hI2 := zI_S (S' := (zcu119_23.2.2.1, zcu119_23.2.2.2.2.2.2, [])) hI1 ⟨hI1.1.1, fun q hq => by
    have hp := List.all_eq_true.mp hfc q hq
    simp only [Bool.and_eq_true, decide_eq_true_eq] at hp
    refine ⟨zpl_w hp.1.2, zpl_w hp.2, ?_⟩
    rw [← zsb_v, ← zsb_v, hp.1.1.1, hp.1.1.2]
    exact Int.le_refl _, fun q hq => (nomatch hq)⟩ rfl
  have hsc2 : zSc (zruS L xs) ad' A s := hsc ad' (hz.2 43 (Nat.le_refl _))
  have IHs := zsound (l := l) (D := D) (cy := cy) (ad := ad') (A := A) (sa := sa) (G := zG) (rul := zruS L xs) (rc := zRul) (bd := 99) hrl hl0 zok_all zcl_ok (fun j ct hct _ => zmets (rc := zRul) hrl hl0 zok_all zcl_ok zcatch_ok zE_all zU_all ct.1 j ct hct rfl) zcatch_ok
  have h40 := hI2.1.1 48 (0, 3072) rfl
  have hN : (zmu (zec (zthI lc' h') e') zcu119_23.2.2.2.1.1 + zcu119_23.2.2.2.1.2).toNat ≤ 3072 := by
    have h41 : zmu (zec (zthI lc' h') e') zcu119_23.2.2.2.1.1 = (-1) * (1 * (zec (zthI lc' h') e') 48 + 0) + 0 := rfl
    have h42 : zcu119_23.2.2.2.1.2 = 3072 := rfl
    have h43 : (0 : Int) ≤ zec (zthI lc' h') e' 48 := h40.1
    rw [h41, h42]
    omega
  have hg1 : zG.2.2.1 119 = 4 := rfl
  have hg2 : zG.2.2.2.1 119 = 24 := rfl
  have hW := zheadL (l := l) (ev := e) (below := below) (e0 := e') (Mc := 601024) (Ms := 7293034) IHs (cu := zcu119_23) rfl zone zLaw zcv119 rfl rfl hat (fun _ => hsc2) _ (0 + nc') (0 + ns') (zec (zthI lc' h') e') ws' H' locs' ls' (by rw [hg1]; omega) (by rw [hg2]; omega) hI2 rfl
  intro T hT X
  obtain ⟨t, a1, o, b1, b2, b3⟩ := hW T hT X
  refine ⟨t, a1, o, b1, b2, ?_⟩
  rcases b3 with ⟨⟨⟨e1, h1, S1, ws1, r, ho, -, -, hk, -⟩, -⟩, Lc, hfe, hfr⟩ | ⟨q, -, E, ce, Lc, ⟨⟨e1, h1, S1, ws1, x9, -, -, hk, -⟩, -⟩, -⟩
  · have hr9 : r = (0, (0, 0, 0, 1)) := of_decide_eq_true hk
    subst hr9
    have hv : zval e1 ad' (0, 0, 0, 1) = .int 1 := by
      rw [zval_0 rfl, zv_c]
      decide
    have ho2 : o = .returned (some (zval e1 ad' (0, 0, 0, 1))) := ho
    rw [hv] at ho2
    exact ⟨ho2, hfe.1, hfe.2.1, zforget hfe.2.2 (fun q hq => hA2 _ (hfr q hq))⟩
  · have hr9 : ((2, (x9, 0, 0, 0)) : zOut) = (0, (0, 0, 0, 1)) := of_decide_eq_true hk
    cases hr9
