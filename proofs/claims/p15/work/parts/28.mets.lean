/-! ===== contracts of all methods that have patterns, out of checks that a program decides ===== -/
section ZS
variable {l : Launch} {D : va_G} {cy : Nat → ClassId} {ad : Nat → Nat} {A : Nat → Prop} {sa : Nat → Nat} {G : zCf} {rul : Nat → List zI}
/-- a method's pattern is checked: from its entry -/
def zCE (G : zCf) (rul : Nat → List zI) (j : Nat) (ct : zCt) : Prop := (∃ n : Nat, zchk G rul ct.1 n j (some ct.2.2.2.1.length) none false 0 (zent 0 ct.2.1) [] ct.2.2.1 (ct.2.2.2.1, [], []) 0 0 (zkp ct) = true) ∧ (∀ a ∈ ct.2.1, ¬ a.1 = 1) ∧ ct.2.1.length ≤ zmaxL j ∧ plainName (zy j).cls = true
/-- .. and from each of its loops' heads -/
def zCU (G : zCf) (rul : Nat → List zI) (j : Nat) (ct : zCt) (pc : Nat) (cu : zCu) : Prop := (∃ n : Nat, zchk G rul ct.1 n j (some ct.2.2.2.1.length) (some cu.2.2.2.1) true pc cu.1 [] cu.2.1 (cu.2.2.1, [], []) cu.2.2.2.2.1 cu.2.2.2.2.2 (zkp ct) = true) ∧ znn cu.2.2.1 cu.2.2.2.1 = true ∧ (∀ q ∈ cu.2.2.2.1.1, zwf cu.2.2.1.length q.2) ∧ ct.2.2.2.1.length ≤ cu.2.2.1.length ∧ cu.2.2.2.2.1 ≤ G.2.2.1 j ∧ cu.2.2.2.2.2 ≤ G.2.2.2.1 j
/-- the heads of a method, by their measure -/
theorem zheads {bd : Nat} {i : Nat} {k : zK} {m0 : Nat} {e0 : Nat → Int} (IH : ∀ n, zSnd l D cy ad A sa G rul bd n)
    (hU : ∀ (pc : Nat) (cu : zCu), G.2.2.2.2.2 i pc = some cu → (∃ n : Nat, zchk G rul bd n i (some m0) (some cu.2.2.2.1) true pc cu.1 [] cu.2.1 (cu.2.2.1, [], []) cu.2.2.2.2.1 cu.2.2.2.2.2 k = true) ∧ znn cu.2.2.1 cu.2.2.2.1 = true ∧ (∀ q ∈ cu.2.2.2.1.1, zwf cu.2.2.1.length q.2) ∧ m0 ≤ cu.2.2.1.length ∧ cu.2.2.2.2.1 ≤ G.2.2.1 i ∧ cu.2.2.2.2.2 ≤ G.2.2.2.1 i)
    {p : Program} {ev : Env} {s : State} {m : MethodId} {args : Array Value} {below : List Frame} {meth : Method} {c : Code} (hat : zAt D cy A sa i p s m args meth c) :
    ∀ (N : Nat) (pc : Nat) (cu : zCu) (ec : Nat → Int) (ws : va_W) (H : Heap) (locs : List Loc) (ls : Array Slot), G.2.2.2.2.2 i pc = some cu → zInv rul D cy ad A (zmaxL i) s.heap ec cu.1 [] cu.2.1 (cu.2.2.1, [], []) ws H locs ls → zag m0 e0 ec → (zmu ec cu.2.2.2.1.1 + cu.2.2.2.1.2).toNat = N →
      W p l ev (zrm G i) s m args below meth c H locs cu.2.2.2.2.1 cu.2.2.2.2.2 (vx_MQ below (zQk rul D cy ad A k m0 e0) (zXk rul D cy ad A k m0 e0) args s (G.2.2.1 i) (G.2.2.2.1 i) A) (F0 m pc ls []) := by
  intro N
  induction N using Nat.strongRecOn with
  | ind N ih =>
    intro pc cu ec ws H locs ls hcu hi hag hN
    obtain ⟨⟨n, hk⟩, hnn, hwf, hlen, hc0, hs0⟩ := hU pc cu hcu
    refine IH n i (some m0) (some cu.2.2.2.1) true pc cu.1 [] cu.2.1 (cu.2.2.1, [], []) _ _ k hk p ev s m args below meth c m0 e0 cu.2.2.1.length ec ec ws H locs ls hat hi hag hlen (zag_rf _ _) (Nat.le_refl _) hc0 hs0 ?_
    intro m' hm'
    cases hm'
    refine ⟨rfl, fun u hu q hq => by cases hu; exact hwf q hq, fun pc' cu' ec' ws' H' locs' ls' hcu' hi' hag' hlen' hmu' => ?_⟩
    have h1 := znn_ok hi.1.1 hnn
    obtain ⟨-, hnn', -, -, -, -⟩ := hU pc' cu' hcu'
    have h2 := znn_ok hi'.1.1 hnn'
    have h3 := hmu' cu.2.2.2.1 rfl
    exact ih _ (by omega) pc' cu' ec' ws' H' locs' ls' hcu' hi' hag' rfl
theorem zmets (hl : l.stackTraces = false) (HV : zOK) (hcl : zCl) (HT : zCatch D cy A sa) (HE : ∀ (j : Nat) (ct : zCt), G.2.2.2.2.1 j = some ct → zCE G rul j ct) (HU : ∀ (j : Nat) (ct : zCt) (pc : Nat) (cu : zCu), G.2.2.2.2.1 j = some ct → G.2.2.2.2.2 j pc = some cu → zCU G rul j ct pc cu) :
    ∀ (r : Nat) (j : Nat) (ct : zCt), G.2.2.2.2.1 j = some ct → ct.1 = r → zMetC l D cy ad A sa G rul j ct := by
  intro r
  induction r using Nat.strongRecOn with
  | ind r ih =>
    intro j ct hct hr e0 ws hs hw hwa hR hD
    obtain ⟨⟨n, hk⟩, htg, hlen, hpl⟩ := HE j ct hct
    have IH := zsound (l := l) (D := D) (cy := cy) (ad := ad) (A := A) (sa := sa) (G := G) (rul := rul) (bd := ct.1) hl HV hcl (fun j' ct' h' hlt => ih ct'.1 (by omega) j' ct' h' rfl) HT
    refine zmet_of (S := (ct.2.2.2.1, [], [])) (n0 := some ct.2.2.2.1.length) (Or.inr hpl) (IH n) hk htg hlen ⟨hs, fun q hq => (nomatch hq), fun q hq => (nomatch hq)⟩ hwa hw hR hD hpl ?_
    intro p ev s m args below meth c hat m' hm'
    cases hm'
    refine ⟨rfl, fun u hu => (nomatch hu), fun pc cu ec ws' H locs ls hcu hi hag hln _ => ?_⟩
    exact zheads (e0 := e0) IH (fun pc' cu' hcu' => HU j ct pc' cu' hct hcu') hat _ pc cu ec ws' H locs ls hcu hi hag rfl
end ZS
