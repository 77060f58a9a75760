/-! ===== contracts of all methods that have patterns, out of checks that a program decides ===== -/
section ZS
variable {l : Launch} {D : va_G} {cy : Nat → ClassId} {ad : Nat → Nat} {A : Nat → Prop} {sa : Nat → Nat} {G : zCf} {rul rc : Nat → List zI}
/-- a method's pattern is checked: from its entry -/
def zCE (G : zCf) (rul : Nat → List zI) (n j : Nat) (ct : zCt) : Bool := zchk G rul ct.1 n j (some ct.2.2.2.1.length) none false 0 (zent 0 ct.2.1) [] ct.2.2.1 (ct.2.2.2.1, [], []) 0 0 (zkp ct) && ct.2.1.all (fun a => decide (¬ a.1 = 1)) && decide (ct.2.1.length ≤ zmaxL j) && zpn j && decide (¬ j = 119)
/-- .. and from each of its loops' heads -/
def zCV (cu : zCu) (m0 mc ms : Nat) : Bool := znn cu.2.2.1 cu.2.2.2.1 && cu.2.2.2.1.1.all (fun q => decide (q.2.2.1 = 0 ∨ q.2.2.2.1 < cu.2.2.1.length)) && decide (m0 ≤ cu.2.2.1.length) && decide (cu.2.2.2.2.1 ≤ mc) && decide (cu.2.2.2.2.2.1 ≤ ms)
def zCU (G : zCf) (rul : Nat → List zI) (n j : Nat) (ct : zCt) (pc : Nat) (cu : zCu) : Bool := zchk G rul ct.1 n j (some ct.2.2.2.1.length) (some cu.2.2.2.1) true pc cu.1 [] cu.2.1 (cu.2.2.1, cu.2.2.2.2.2.2, []) cu.2.2.2.2.1 cu.2.2.2.2.2.1 (zkp ct) && zCV cu ct.2.2.2.1.length (G.2.2.1 j) (G.2.2.2.1 j)
theorem zCV_ok {cu : zCu} {m0 mc ms : Nat} (h : zCV cu m0 mc ms = true) : znn cu.2.2.1 cu.2.2.2.1 = true ∧ (∀ q ∈ cu.2.2.2.1.1, zwf cu.2.2.1.length q.2) ∧ m0 ≤ cu.2.2.1.length ∧ cu.2.2.2.2.1 ≤ mc ∧ cu.2.2.2.2.2.1 ≤ ms := by
  unfold zCV at h
  simp only [Bool.and_eq_true, decide_eq_true_eq] at h
  obtain ⟨⟨⟨⟨h1, h2⟩, h3⟩, h4⟩, h5⟩ := h
  exact ⟨h1, fun q hq => (show q.2.2.1 = 0 ∨ q.2.2.2.1 < cu.2.2.1.length from of_decide_eq_true (List.all_eq_true.mp h2 q hq)), h3, h4, h5⟩
/-- the heads of a method, by their measure -/
theorem zheads {bd : Nat} {i : Nat} {k : zK} {m0 : Nat} {e0 : Nat → Int} (IH : ∀ n, zSnd l D cy ad A sa G rul rc bd n)
    (hU : ∀ (pc : Nat) (cu : zCu), G.2.2.2.2.2 i pc = some cu → (∃ n : Nat, zchk G rc bd n i (some m0) (some cu.2.2.2.1) true pc cu.1 [] cu.2.1 (cu.2.2.1, cu.2.2.2.2.2.2, []) cu.2.2.2.2.1 cu.2.2.2.2.2.1 k = true) ∧ zCV cu m0 (G.2.2.1 i) (G.2.2.2.1 i) = true)
    {p : Program} {ev : Env} {s : State} {m : MethodId} {args : Array Value} {below : List Frame} {meth : Method} {c : Code} (hat : zAt D cy A sa i p s m args meth c) (hni : ¬ i = 119) :
    ∀ (N : Nat) (pc : Nat) (cu : zCu) (ec : Nat → Int) (ws : va_W) (H : Heap) (locs : List Loc) (ls : Array Slot), G.2.2.2.2.2 i pc = some cu → zInv rul D cy ad A (zmaxL i) s.heap ec cu.1 [] cu.2.1 (cu.2.2.1, cu.2.2.2.2.2.2, []) ws H locs ls → zag m0 e0 ec → (zmu ec cu.2.2.2.1.1 + cu.2.2.2.1.2).toNat = N →
      W p l ev (zrM G i (G.2.2.1 i) (G.2.2.2.1 i)) s m args below meth c H locs (0 + cu.2.2.2.2.1) (0 + cu.2.2.2.2.2.1) (vx_MQ below (zQk rul D cy ad A k m0 e0) (zXk rul D cy ad A k m0 e0) args s (G.2.2.1 i) (G.2.2.2.1 i) A) (F0 m pc ls []) := by
  intro N
  induction N using Nat.strongRecOn with
  | ind N ih =>
    intro pc cu ec ws H locs ls hcu hi hag hN
    obtain ⟨⟨n, hk⟩, hcv⟩ := hU pc cu hcu
    obtain ⟨hnn, hwf, hlen, hc0, hs0⟩ := zCV_ok hcv
    refine IH n i (some m0) (some cu.2.2.2.1) true pc cu.1 [] cu.2.1 (cu.2.2.1, cu.2.2.2.2.2.2, []) _ _ k hk p ev s m args below meth c m0 e0 cu.2.2.1.length ec ec ws H locs ls 0 0 _ _ hat (fun q => absurd q hni) hi hag hlen (zag_rf _ _) (Nat.le_refl _) hc0 hs0 (Nat.le_of_eq (Nat.zero_add _)) (Nat.le_of_eq (Nat.zero_add _)) ?_
    intro m' hm'
    cases hm'
    refine ⟨rfl, fun u hu q hq => by cases hu; exact hwf q hq, fun pc' cu' ec' ws' H' locs' ls' hcu' hi' hag' hlen' hmu' => ?_⟩
    have h1 := znn_ok hi.1.1 hnn
    obtain ⟨hnn', -, -, -, -⟩ := zCV_ok (hU pc' cu' hcu').2
    have h2 := znn_ok hi'.1.1 hnn'
    have h3 := hmu' cu.2.2.2.1 rfl
    exact ih _ (by omega) pc' cu' ec' ws' H' locs' ls' hcu' hi' hag' rfl
/-- one head, whose round takes some of the room each time -/
theorem zheadL {bd n : Nat} {i pc : Nat} {cu : zCu} {k : zK} {e0 : Nat → Int} {Mc Ms : Nat} (IH : ∀ n, zSnd l D cy ad A sa G rul rc bd n) (hcu : G.2.2.2.2.2 i pc = some cu) (hone : ∀ (pc' : Nat) (cu' : zCu), G.2.2.2.2.2 i pc' = some cu' → pc' = pc)
    (hk : zchk G rc bd n i (some 0) (some cu.2.2.2.1) true pc cu.1 [] cu.2.1 (cu.2.2.1, cu.2.2.2.2.2.2, []) 0 0 k = true) (hcv : zCV cu 0 (G.2.2.1 i) (G.2.2.2.1 i) = true) (hcc : cu.2.2.2.2.1 = G.2.2.1 i) (hss : cu.2.2.2.2.2.1 = G.2.2.2.1 i)
    {p : Program} {ev : Env} {s : State} {m : MethodId} {args : Array Value} {below : List Frame} {meth : Method} {c : Code} (hat : zAt D cy A sa i p s m args meth c) (hsc : i = 119 → zSc rul ad A s) :
    ∀ (N : Nat) (oc os : Nat) (ec : Nat → Int) (ws : va_W) (H : Heap) (locs : List Loc) (ls : Array Slot), oc + G.2.2.1 i * (N + 1) ≤ Mc → os + G.2.2.2.1 i * (N + 1) ≤ Ms → zInv rul D cy ad A (zmaxL i) s.heap ec cu.1 [] cu.2.1 (cu.2.2.1, cu.2.2.2.2.2.2, []) ws H locs ls → (zmu ec cu.2.2.2.1.1 + cu.2.2.2.1.2).toNat = N →
      W p l ev (zrM G i Mc Ms) s m args below meth c H locs oc os (vx_MQ below (zQk rul D cy ad A k 0 e0) (zXk rul D cy ad A k 0 e0) args s Mc Ms A) (F0 m pc ls []) := by
  intro N
  induction N using Nat.strongRecOn with
  | ind N ih =>
    intro oc os ec ws H locs ls hoc hos hi hN
    obtain ⟨hnn, hwf, hlen, hc0, hs0⟩ := zCV_ok hcv
    have hm1 : G.2.2.1 i ≤ G.2.2.1 i * (N + 1) := Nat.le_mul_of_pos_right _ (Nat.succ_pos _)
    have hm2 : G.2.2.2.1 i ≤ G.2.2.2.1 i * (N + 1) := Nat.le_mul_of_pos_right _ (Nat.succ_pos _)
    refine IH n i (some 0) (some cu.2.2.2.1) true pc cu.1 [] cu.2.1 (cu.2.2.1, cu.2.2.2.2.2.2, []) 0 0 k hk p ev s m args below meth c 0 e0 cu.2.2.1.length ec ec ws H locs ls oc os Mc Ms hat hsc hi (fun v hv => absurd hv (Nat.not_lt_zero v)) (Nat.zero_le _) (zag_rf _ _) (Nat.le_refl _) (Nat.zero_le _) (Nat.zero_le _) (by omega) (by omega) ?_
    intro m' hm'
    cases hm'
    refine ⟨rfl, fun u hu q hq => by cases hu; exact hwf q hq, fun pc' cu' ec' ws' H' locs' ls' hcu' hi' hag' hlen' hmu' => ?_⟩
    have hpc := hone pc' cu' hcu'
    subst hpc
    have hcc' : cu' = cu := Option.some.inj (hcu'.symm.trans hcu)
    subst hcc'
    have h1 := znn_ok hi.1.1 hnn
    have h2 := znn_ok hi'.1.1 hnn
    have h3 := hmu' cu'.2.2.2.1 rfl
    obtain ⟨N', hN'⟩ : ∃ N', N' = (zmu ec' cu'.2.2.2.1.1 + cu'.2.2.2.1.2).toNat := ⟨_, rfl⟩
    have hlt : N' + 1 ≤ N := by omega
    have hl1 := Nat.mul_le_mul_left (G.2.2.1 i) hlt
    have hl2 := Nat.mul_le_mul_left (G.2.2.2.1 i) hlt
    rw [Nat.mul_succ] at hoc hos
    rw [hcc, hss]
    exact ih N' (by omega) (oc + G.2.2.1 i) (os + G.2.2.2.1 i) ec' ws' H' locs' ls' (by omega) (by omega) hi' hN'.symm
theorem zmets (hrl : ∀ r, r < 100 → rc r = rul r) (hl : l.stackTraces = false) (HV : zOK) (hcl : zCl) (HT : zCatch D cy A sa) (HE : ∀ (j : Nat) (ct : zCt), G.2.2.2.2.1 j = some ct → ∃ n, zCE G rc n j ct = true) (HU : ∀ (j : Nat) (ct : zCt) (pc : Nat) (cu : zCu), G.2.2.2.2.1 j = some ct → G.2.2.2.2.2 j pc = some cu → ∃ n, zCU G rc n j ct pc cu = true) :
    ∀ (r : Nat) (j : Nat) (ct : zCt), G.2.2.2.2.1 j = some ct → ct.1 = r → zMetC l D cy ad A sa G rul j ct := by
  intro r
  induction r using Nat.strongRecOn with
  | ind r ih =>
    intro j ct hct hr e0 ws hs hw hwa hR hD
    obtain ⟨n, hE⟩ := HE j ct hct
    unfold zCE at hE
    simp only [Bool.and_eq_true, decide_eq_true_eq] at hE
    obtain ⟨⟨⟨⟨hk, htg⟩, hlen⟩, hpl⟩, hni⟩ := hE
    have htg : ∀ a ∈ ct.2.1, ¬ a.1 = 1 := fun a ha => of_decide_eq_true (List.all_eq_true.mp htg a ha)
    have IH := zsound (l := l) (D := D) (cy := cy) (ad := ad) (A := A) (sa := sa) (G := G) (rul := rul) (rc := rc) (bd := ct.1) hrl hl HV hcl (fun j' ct' h' hlt => ih ct'.1 (by omega) j' ct' h' rfl) HT
    refine zmet_of (S := (ct.2.2.2.1, [], [])) (n0 := some ct.2.2.2.1.length) hni (IH n) hk htg hlen ⟨hs, fun q hq => (nomatch hq), fun q hq => (nomatch hq)⟩ hwa hw hR hD hpl ?_
    intro p ev s m args below meth c hat m' hm'
    cases hm'
    refine ⟨rfl, fun u hu => (nomatch hu), fun pc cu ec ws' H locs ls hcu hi hag hln _ => ?_⟩
    refine zheads (e0 := e0) IH (fun pc' cu' hcu' => ?_) hat hni _ pc cu ec ws' H locs ls hcu hi hag rfl
    obtain ⟨n9, hU9⟩ := HU j ct pc' cu' hct hcu'
    unfold zCU at hU9
    simp only [Bool.and_eq_true] at hU9
    exact ⟨⟨n9, hU9.1⟩, hU9.2⟩
end ZS
