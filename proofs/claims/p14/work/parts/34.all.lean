/-! ===== all listings, all walks ===== -/
theorem zok0 : zokm 0 = true := by decide +kernel
theorem zok35 : zokm 35 = true := by decide +kernel
theorem zok77 : zokm 77 = true := by decide +kernel
theorem zok92 : zokm 92 = true := by decide +kernel
theorem zok95 : zokm 95 = true := by decide +kernel
theorem zok118 : zokm 118 = true := by decide +kernel
theorem zok_lt : ∀ i ∈ ([0, 1, 2, 3, 4, 5, 6, 7, 8, 9, 10, 11, 12, 13, 14, 15, 16, 17, 18, 19, 20, 21, 22, 23, 24, 25, 26, 27, 28, 29, 30, 31, 32, 33, 34, 35, 36, 37, 38, 39, 40, 41, 42, 43, 44, 45, 46, 47, 48, 49, 50, 51, 52, 53, 54, 55, 56, 57, 58, 59, 60, 61, 62, 63, 64, 65, 66, 67, 68, 69, 70, 71, 72, 73, 74, 75, 76, 77, 78, 79, 80, 81, 82, 83, 84, 85, 86, 87, 88, 89, 90, 91, 92, 93, 94, 95, 96, 97, 98, 99, 100, 101, 102, 103, 104, 105, 106, 107, 108, 109, 110, 111, 112, 113, 114, 115, 116, 117, 118] : List Nat), zokm i = true := List.forall_mem_cons.mpr ⟨zok0, List.forall_mem_cons.mpr ⟨zok1, List.forall_mem_cons.mpr ⟨zok2, List.forall_mem_cons.mpr ⟨zok3, List.forall_mem_cons.mpr ⟨zok4, List.forall_mem_cons.mpr ⟨zok5, List.forall_mem_cons.mpr ⟨zok6, List.forall_mem_cons.mpr ⟨zok7, List.forall_mem_cons.mpr ⟨zok8, List.forall_mem_cons.mpr ⟨zok9, List.forall_mem_cons.mpr ⟨zok10, List.forall_mem_cons.mpr ⟨zok11, List.forall_mem_cons.mpr ⟨zok12, List.forall_mem_cons.mpr ⟨zok13, List.forall_mem_cons.mpr ⟨zok14, List.forall_mem_cons.mpr ⟨zok15, List.forall_mem_cons.mpr ⟨zok16, List.forall_mem_cons.mpr ⟨zok17, List.forall_mem_cons.mpr ⟨zok18, List.forall_mem_cons.mpr ⟨zok19, List.forall_mem_cons.mpr ⟨zok20, List.forall_mem_cons.mpr ⟨zok21, List.forall_mem_cons.mpr ⟨zok22, List.forall_mem_cons.mpr ⟨zok23, List.forall_mem_cons.mpr ⟨zok24, List.forall_mem_cons.mpr ⟨zok25, List.forall_mem_cons.mpr ⟨zok26, List.forall_mem_cons.mpr ⟨zok27, List.forall_mem_cons.mpr ⟨zok28, List.forall_mem_cons.mpr ⟨zok29, List.forall_mem_cons.mpr ⟨zok30, List.forall_mem_cons.mpr ⟨zok31, List.forall_mem_cons.mpr ⟨zok32, List.forall_mem_cons.mpr ⟨zok33, List.forall_mem_cons.mpr ⟨zok34, List.forall_mem_cons.mpr ⟨zok35, List.forall_mem_cons.mpr ⟨zok36, List.forall_mem_cons.mpr ⟨zok37, List.forall_mem_cons.mpr ⟨zok38, List.forall_mem_cons.mpr ⟨zok39, List.forall_mem_cons.mpr ⟨zok40, List.forall_mem_cons.mpr ⟨zok41, List.forall_mem_cons.mpr ⟨zok42, List.forall_mem_cons.mpr ⟨zok43, List.forall_mem_cons.mpr ⟨zok44, List.forall_mem_cons.mpr ⟨zok45, List.forall_mem_cons.mpr ⟨zok46, List.forall_mem_cons.mpr ⟨zok47, List.forall_mem_cons.mpr ⟨zok48, List.forall_mem_cons.mpr ⟨zok49, List.forall_mem_cons.mpr ⟨zok50, List.forall_mem_cons.mpr ⟨zok51, List.forall_mem_cons.mpr ⟨zok52, List.forall_mem_cons.mpr ⟨zok53, List.forall_mem_cons.mpr ⟨zok54, List.forall_mem_cons.mpr ⟨zok55, List.forall_mem_cons.mpr ⟨zok56, List.forall_mem_cons.mpr ⟨zok57, List.forall_mem_cons.mpr ⟨zok58, List.forall_mem_cons.mpr ⟨zok59, List.forall_mem_cons.mpr ⟨zok60, List.forall_mem_cons.mpr ⟨zok61, List.forall_mem_cons.mpr ⟨zok62, List.forall_mem_cons.mpr ⟨zok63, List.forall_mem_cons.mpr ⟨zok64, List.forall_mem_cons.mpr ⟨zok65, List.forall_mem_cons.mpr ⟨zok66, List.forall_mem_cons.mpr ⟨zok67, List.forall_mem_cons.mpr ⟨zok68, List.forall_mem_cons.mpr ⟨zok69, List.forall_mem_cons.mpr ⟨zok70, List.forall_mem_cons.mpr ⟨zok71, List.forall_mem_cons.mpr ⟨zok72, List.forall_mem_cons.mpr ⟨zok73, List.forall_mem_cons.mpr ⟨zok74, List.forall_mem_cons.mpr ⟨zok75, List.forall_mem_cons.mpr ⟨zok76, List.forall_mem_cons.mpr ⟨zok77, List.forall_mem_cons.mpr ⟨zok78, List.forall_mem_cons.mpr ⟨zok79, List.forall_mem_cons.mpr ⟨zok80, List.forall_mem_cons.mpr ⟨zok81, List.forall_mem_cons.mpr ⟨zok82, List.forall_mem_cons.mpr ⟨zok83, List.forall_mem_cons.mpr ⟨zok84, List.forall_mem_cons.mpr ⟨zok85, List.forall_mem_cons.mpr ⟨zok86, List.forall_mem_cons.mpr ⟨zok87, List.forall_mem_cons.mpr ⟨zok88, List.forall_mem_cons.mpr ⟨zok89, List.forall_mem_cons.mpr ⟨zok90, List.forall_mem_cons.mpr ⟨zok91, List.forall_mem_cons.mpr ⟨zok92, List.forall_mem_cons.mpr ⟨zok93, List.forall_mem_cons.mpr ⟨zok94, List.forall_mem_cons.mpr ⟨zok95, List.forall_mem_cons.mpr ⟨zok96, List.forall_mem_cons.mpr ⟨zok97, List.forall_mem_cons.mpr ⟨zok98, List.forall_mem_cons.mpr ⟨zok99, List.forall_mem_cons.mpr ⟨zok100, List.forall_mem_cons.mpr ⟨zok101, List.forall_mem_cons.mpr ⟨zok102, List.forall_mem_cons.mpr ⟨zok103, List.forall_mem_cons.mpr ⟨zok104, List.forall_mem_cons.mpr ⟨zok105, List.forall_mem_cons.mpr ⟨zok106, List.forall_mem_cons.mpr ⟨zok107, List.forall_mem_cons.mpr ⟨zok108, List.forall_mem_cons.mpr ⟨zok109, List.forall_mem_cons.mpr ⟨zok110, List.forall_mem_cons.mpr ⟨zok111, List.forall_mem_cons.mpr ⟨zok112, List.forall_mem_cons.mpr ⟨zok113, List.forall_mem_cons.mpr ⟨zok114, List.forall_mem_cons.mpr ⟨zok115, List.forall_mem_cons.mpr ⟨zok116, List.forall_mem_cons.mpr ⟨zok117, List.forall_mem_cons.mpr ⟨zok118, fun _ h => nomatch h⟩⟩⟩⟩⟩⟩⟩⟩⟩⟩⟩⟩⟩⟩⟩⟩⟩⟩⟩⟩⟩⟩⟩⟩⟩⟩⟩⟩⟩⟩⟩⟩⟩⟩⟩⟩⟩⟩⟩⟩⟩⟩⟩⟩⟩⟩⟩⟩⟩⟩⟩⟩⟩⟩⟩⟩⟩⟩⟩⟩⟩⟩⟩⟩⟩⟩⟩⟩⟩⟩⟩⟩⟩⟩⟩⟩⟩⟩⟩⟩⟩⟩⟩⟩⟩⟩⟩⟩⟩⟩⟩⟩⟩⟩⟩⟩⟩⟩⟩⟩⟩⟩⟩⟩⟩⟩⟩⟩⟩⟩⟩⟩⟩⟩⟩⟩⟩⟩⟩
theorem zokl_split {l : List (Nat × zO)} (n : Nat) (h1 : zokl (l.take n) = true) (h2 : zokl (l.drop n) = true) : zokl l = true := by
  unfold zokl at h1 h2 ⊢
  rw [← List.take_append_drop n l, List.all_append, h1, h2]
  rfl
theorem zokl_end : zokl (zo119.drop 560) = true := by decide +kernel
theorem zokl_7 : zokl (zo119.drop 490) = true := zokl_split 70 zok119_7 (by rw [List.drop_drop]; exact zokl_end)
theorem zokl_6 : zokl (zo119.drop 420) = true := zokl_split 70 zok119_6 (by rw [List.drop_drop]; exact zokl_7)
theorem zokl_5 : zokl (zo119.drop 350) = true := zokl_split 70 zok119_5 (by rw [List.drop_drop]; exact zokl_6)
theorem zokl_4 : zokl (zo119.drop 280) = true := zokl_split 70 zok119_4 (by rw [List.drop_drop]; exact zokl_5)
theorem zokl_3 : zokl (zo119.drop 210) = true := zokl_split 70 zok119_3 (by rw [List.drop_drop]; exact zokl_4)
theorem zokl_2 : zokl (zo119.drop 140) = true := zokl_split 70 zok119_2 (by rw [List.drop_drop]; exact zokl_3)
theorem zokl_1 : zokl (zo119.drop 70) = true := zokl_split 70 zok119_1 (by rw [List.drop_drop]; exact zokl_2)
theorem zokl_0 : zokl (zo119.drop 0) = true := zokl_split 70 zok119_0 (by rw [List.drop_drop]; exact zokl_1)
theorem zok119 : zokm 119 = true := by
  have h := zokl_0
  rw [List.drop_zero] at h
  exact h
theorem zok_all : zOK := by
  intro i pc o ho
  by_cases h : i < 119
  · exact zokm_ok (zok_lt i (by rw [show ([0, 1, 2, 3, 4, 5, 6, 7, 8, 9, 10, 11, 12, 13, 14, 15, 16, 17, 18, 19, 20, 21, 22, 23, 24, 25, 26, 27, 28, 29, 30, 31, 32, 33, 34, 35, 36, 37, 38, 39, 40, 41, 42, 43, 44, 45, 46, 47, 48, 49, 50, 51, 52, 53, 54, 55, 56, 57, 58, 59, 60, 61, 62, 63, 64, 65, 66, 67, 68, 69, 70, 71, 72, 73, 74, 75, 76, 77, 78, 79, 80, 81, 82, 83, 84, 85, 86, 87, 88, 89, 90, 91, 92, 93, 94, 95, 96, 97, 98, 99, 100, 101, 102, 103, 104, 105, 106, 107, 108, 109, 110, 111, 112, 113, 114, 115, 116, 117, 118] : List Nat) = List.range 119 from by decide]; exact List.mem_range.mpr h)) pc o ho
  · by_cases h2 : i = 119
    · subst h2
      exact zokm_ok zok119 pc o ho
    · have h3 : zopl i = [] := by
        unfold zopl
        split <;> first | rfl | omega
      rw [h3] at ho
      cases ho
theorem zE_all : ∀ (j : Nat) (ct : zCt), zG.2.2.2.2.1 j = some ct → ∃ n, zCE zG zRul n j ct = true := by
  intro j ct h
  have h : zctr j = some ct := h
  unfold zctr at h
  split at h
  · cases h; exact ⟨_, zE1⟩
  · cases h; exact ⟨_, zE2⟩
  · cases h; exact ⟨_, zE3⟩
  · cases h; exact ⟨_, zE4⟩
  · cases h; exact ⟨_, zE5⟩
  · cases h; exact ⟨_, zE6⟩
  · cases h; exact ⟨_, zE7⟩
  · cases h; exact ⟨_, zE8⟩
  · cases h; exact ⟨_, zE9⟩
  · cases h; exact ⟨_, zE10⟩
  · cases h; exact ⟨_, zE11⟩
  · cases h; exact ⟨_, zE15⟩
  · cases h; exact ⟨_, zE16⟩
  · cases h; exact ⟨_, zE17⟩
  · cases h; exact ⟨_, zE18⟩
  · cases h; exact ⟨_, zE19⟩
  · cases h; exact ⟨_, zE20⟩
  · cases h; exact ⟨_, zE27⟩
  · cases h; exact ⟨_, zE28⟩
  · cases h; exact ⟨_, zE29⟩
  · cases h; exact ⟨_, zE30⟩
  · cases h; exact ⟨_, zE31⟩
  · cases h; exact ⟨_, zE32⟩
  · cases h; exact ⟨_, zE33⟩
  · cases h; exact ⟨_, zE34⟩
  · cases h; exact ⟨_, zE44⟩
  · cases h; exact ⟨_, zE45⟩
  · cases h; exact ⟨_, zE46⟩
  · cases h; exact ⟨_, zE47⟩
  · cases h; exact ⟨_, zE48⟩
  · cases h; exact ⟨_, zE49⟩
  · cases h; exact ⟨_, zE50⟩
  · cases h; exact ⟨_, zE51⟩
  · cases h; exact ⟨_, zE52⟩
  · cases h; exact ⟨_, zE53⟩
  · cases h; exact ⟨_, zE54⟩
  · cases h; exact ⟨_, zE60⟩
  · cases h; exact ⟨_, zE61⟩
  · cases h; exact ⟨_, zE62⟩
  · cases h; exact ⟨_, zE63⟩
  · cases h; exact ⟨_, zE64⟩
  · cases h; exact ⟨_, zE65⟩
  · cases h; exact ⟨_, zE66⟩
  · cases h; exact ⟨_, zE67⟩
  · cases h; exact ⟨_, zE71⟩
  · cases h; exact ⟨_, zE72⟩
  · cases h; exact ⟨_, zE73⟩
  · cases h; exact ⟨_, zE74⟩
  · cases h; exact ⟨_, zE75⟩
  · cases h; exact ⟨_, zE76⟩
  · cases h; exact ⟨_, zE84⟩
  · cases h; exact ⟨_, zE85⟩
  · cases h; exact ⟨_, zE86⟩
  · cases h; exact ⟨_, zE88⟩
  · cases h; exact ⟨_, zE89⟩
  · cases h; exact ⟨_, zE90⟩
  · cases h; exact ⟨_, zE91⟩
  · cases h; exact ⟨_, zE96⟩
  · cases h; exact ⟨_, zE97⟩
  · cases h
theorem zU_all : ∀ (j : Nat) (ct : zCt) (pc : Nat) (cu : zCu), zG.2.2.2.2.1 j = some ct → zG.2.2.2.2.2 j pc = some cu → ∃ n, zCU zG zRul n j ct pc cu = true := by
  intro j ct pc cu hct h
  have h : zcut j pc = some cu := h
  unfold zcut at h
  split at h
  · cases h; have hct : some zct4 = some ct := hct; cases hct; exact ⟨_, zU4_41⟩
  · cases h; have hct : some zct8 = some ct := hct; cases hct; exact ⟨_, zU8_11⟩
  · cases h; have hct : some zct9 = some ct := hct; cases hct; exact ⟨_, zU9_25⟩
  · cases h; have hct : some zct17 = some ct := hct; cases hct; exact ⟨_, zU17_29⟩
  · cases h; have hct : some zct18 = some ct := hct; cases hct; exact ⟨_, zU18_42⟩
  · cases h; have hct : some zct19 = some ct := hct; cases hct; exact ⟨_, zU19_11⟩
  · cases h; have hct : some zct48 = some ct := hct; cases hct; exact ⟨_, zU48_4⟩
  · cases h; have hct : some zct49 = some ct := hct; cases hct; exact ⟨_, zU49_4⟩
  · cases h; have hct : some zct52 = some ct := hct; cases hct; exact ⟨_, zU52_63⟩
  · cases h; have hct : some zct54 = some ct := hct; cases hct; exact ⟨_, zU54_4⟩
  · cases h; have hct : some zct64 = some ct := hct; cases hct; exact ⟨_, zU64_26⟩
  · cases h; have hct : some zct65 = some ct := hct; cases hct; exact ⟨_, zU65_40⟩
  · cases h; have hct : some zct67 = some ct := hct; cases hct; exact ⟨_, zU67_46⟩
  · cases h; have hct : some zct73 = some ct := hct; cases hct; exact ⟨_, zU73_36⟩
  · cases h; have hct : some zct74 = some ct := hct; cases hct; exact ⟨_, zU74_24⟩
  · cases h; have hct : some zct74 = some ct := hct; cases hct; exact ⟨_, zU74_59⟩
  · cases h; have hct : some zct75 = some ct := hct; cases hct; exact ⟨_, zU75_26⟩
  · cases h; have hct : some zct88 = some ct := hct; cases hct; exact ⟨_, zU88_6⟩
  · cases h; have hct : some zct89 = some ct := hct; cases hct; exact ⟨_, zU89_8⟩
  · cases h; have hct : some zct90 = some ct := hct; cases hct; exact ⟨_, zU90_4⟩
  · cases h; have hct : some zct91 = some ct := hct; cases hct; exact ⟨_, zU91_4⟩
  · cases h; have hct : some zct97 = some ct := hct; cases hct; exact ⟨_, zU97_10⟩
  · have hct : (none : Option zCt) = some ct := hct; cases hct
  · cases h
theorem zone : ∀ (pc' : Nat) (cu' : zCu), zG.2.2.2.2.2 119 pc' = some cu' → pc' = 23 := by
  intro pc' cu' h
  have h : zcut 119 pc' = some cu' := h
  unfold zcut at h
  split at h <;> first | rfl | (cases h; done) | omega
theorem zcv119 : zCV zcu119_23 0 (zG.2.2.1 119) (zG.2.2.2.1 119) = true := by decide +kernel
theorem zL_all : ∀ t ∈ zL2, zchT zG zRul 99 144 119 (some 0) (some zcu119_23.2.2.2.1) false 0 0 zlk t = true := by
  intro t ht
  obtain ⟨j, hj⟩ := List.getElem?_of_mem ht
  have hlt : j < 21 := by have := (List.getElem?_eq_some_iff.mp hj).1; rw [zL2_len] at this; exact this
  have hg : zL2.getD j zL0 = t := by rw [List.getD_eq_getElem?_getD, hj]; rfl
  rw [← hg]
  match j, hlt with
  | 0, _ => exact zL_0
  | 1, _ => exact zL_1
  | 2, _ => exact zL_2
  | 3, _ => exact zL_3
  | 4, _ => exact zL_4
  | 5, _ => exact zL_5
  | 6, _ => exact zL_6
  | 7, _ => exact zL_7
  | 8, _ => exact zL_8
  | 9, _ => exact zL_9
  | 10, _ => exact zL_10
  | 11, _ => exact zL_11
  | 12, _ => exact zL_12
  | 13, _ => exact zL_13
  | 14, _ => exact zL_14
  | 15, _ => exact zL_15
  | 16, _ => exact zL_16
  | 17, _ => exact zL_17
  | 18, _ => exact zL_18
  | 19, _ => exact zL_19
  | 20, _ => exact zL_20
  | n + 21, h => omega
theorem zLaw : zchk zG zRul 99 156 119 (some 0) (some zcu119_23.2.2.2.1) true 23 zcu119_23.1 [] zcu119_23.2.1 (zcu119_23.2.2.1, zcu119_23.2.2.2.2.2.2, []) 0 0 zlk = true := by
  have hy : zchT zG zRul 99 150 119 (some 0) (some zcu119_23.2.2.2.1) false 0 0 zlk zLy = true := by
    cases hs : zstpN zG zRul 119 6 false zLy with
    | none => have := zL2_eq; rw [hs] at this; cases this
    | some L =>
      have hL : zL2 = L := by unfold zL2; rw [hs]; rfl
      exact zstpN_ok (n := 144) (m := 6) (by decide) hs (fun t ht => zL_all t (by rw [hL]; exact ht))
  cases hs : zstpN zG zRul 119 6 true zL0 with
  | none => have := zL1_eq; rw [hs] at this; cases this
  | some L =>
    have hL : zL1 = L := by unfold zL1; rw [hs]; rfl
    refine zstpN_ok (n := 150) (m := 6) (t := zL0) (by decide) hs (fun t ht => ?_)
    rw [← hL] at ht
    obtain ⟨j, hj⟩ := List.getElem?_of_mem ht
    have hlt : j < 2 := by have := (List.getElem?_eq_some_iff.mp hj).1; rw [zL1_len] at this; exact this
    have hg : zL1.getD j zL0 = t := by rw [List.getD_eq_getElem?_getD, hj]; rfl
    rw [← hg]
    match j, hlt with
    | 0, _ => exact zLx_ok
    | 1, _ => exact hy
    | n + 2, h => omega
