/-! ===== the walk: a method's instructions, its calls run in place or by their patterns ===== -/
/-- a method by its pattern: rank; arguments, cells and bounds ahead; answer, cells and bounds behind (the first numbers are those ahead); what it may throw -/
abbrev zCt : Type := Nat × List zA × List zC × List zI × Option zA × List zC × List zI × List Nat
/-- a loop's head: locals, cells, bounds, measure, cells and slots made by then, facts -/
abbrev zCu : Type := zL × List zC × List zI × zM × Nat × Nat × List (zA × zA)
/-- frames, locals, cells, slots that a method may use; patterns; heads -/
abbrev zCf : Type := (Nat → Nat) × (Nat → Nat) × (Nat → Nat) × (Nat → Nat) × (Nat → Option zCt) × (Nat → Nat → Option zCu)
/-- a method's room within a larger one -/
def zrM (G : zCf) (i Mc Ms : Nat) : Room := { frames := G.1 i, cells := Mc, slots := Ms, locals := G.2.1 i }
def zrm (G : zCf) (i : Nat) : Room := { frames := G.1 i, cells := G.2.2.1 i, slots := G.2.2.2.1 i, locals := G.2.1 i }
abbrev zOut : Type := Nat × zA
abbrev zK : Type := zOut → List zC → zS → Bool
def zopf : List (Nat × zO) → Nat → Option zO
  | [], _ => none
  | q :: l, pc => if q.1 = pc then some q.2 else zopf l pc
def zent : Nat → List zA → zL
  | _, [] => []
  | n, a :: l => (n, a) :: zent (n + 1) l
def zcw (j : Nat) : Cond := if zhh j = [] then .code (zy j) (zcode j) (zmaxL j) (zret j) else .codeWith (zy j) (zcode j) (zmaxL j) (zret j) (zhh j)
/-- its bytes are what runs -/
def zpn (j : Nat) : Bool := plainFor (zy j) && (decide (zhh j = []) || plainName (zy j).cls)
def zgn (j na : Nat) : Bool := decide ((zy j).cls ≠ "java/lang/invoke/MethodHandle") && decide ((zy j).cls ≠ "java/lang/invoke/VarHandle") && decide ((parseMethodDescriptor (zy j).desc).map (fun d => d.parameters.length) = some na) && zpn j
/-- the listing is right at a call -/
def zgc (i pc : Nat) (o : zO) : Bool :=
  if o.1 = 50 then decide (decode (zcode i) pc = .ok (.invokestatic o.2.1.toNat, 3)) && zwd (o.2.2.2.2.2.getD 0 0) (.methodLink (zy i).cls o.2.1.toNat (zy o.2.2.1)) && zwd (o.2.2.2.2.2.getD 1 0) (.static (zy o.2.2.1)) && zwd (o.2.2.2.2.2.getD 2 0) (.initialized (zy o.2.2.1).cls) && zwd (o.2.2.2.2.2.getD 3 0) (zcw o.2.2.1) && zgn o.2.2.1 o.2.2.2.1
  else decide (decode (zcode i) pc = .ok (.invokevirtual o.2.1.toNat, 3)) && zwd (o.2.2.2.2.2.getD 0 0) (.methodLink (zy i).cls o.2.1.toNat (zy o.2.2.1)) && zwd (o.2.2.2.2.2.getD 1 0) (.instanceMethod (zy o.2.2.1)) && zwd (o.2.2.2.2.2.getD 2 0) (.selects (zy o.2.2.1).cls (zy o.2.2.1) (zy o.2.2.1)) && zwd (o.2.2.2.2.2.getD 3 0) (.initialized (zy o.2.2.1).cls) && zwd (o.2.2.2.2.2.getD 4 0) (zcw o.2.2.1) && zgn o.2.2.1 o.2.2.2.1 && decide (zhh o.2.2.1 = [])
/-- the arguments, and what stays on the stack -/
def zargs (o : zO) (st : List zA) (h : List zC) : Option (List zA × List zA) :=
  if o.2.2.2.1 ≤ st.length then (if o.1 = 50 then some ((st.take o.2.2.2.1).reverse, st.drop o.2.2.2.1) else match st.drop o.2.2.2.1 with
    | a :: r => (match h[a.2.2.1]? with
      | some c => if a.1 = 2 ∧ c.1 = 0 ∧ (vwCl[c.2.1]?).map (fun q => q.1) = some (zy o.2.2.1).cls then some (a :: (st.take o.2.2.2.1).reverse, r) else none
      | none => none)
    | [] => none) else none
def zbl (i : Nat) (S : zS) (a : zA) : Bool := match zret i with
  | some .int => true
  | some .boolean => zin S.1 a 0 1
  | _ => false
def zfh : List (Nat × Nat × Nat × Nat) → Nat → Nat → Option Nat
  | [], _, _ => none
  | q :: l, pc, x => if q.1 ≤ pc ∧ pc < q.2.1 then (if zcx q.2.2.2 = x then some q.2.2.1 else zfh l pc x) else zfh l pc x
def zthk (m0 : Nat) (I : List zI) (ps : List (zA × zA)) : List zA := (List.range I.length).map fun v => if v < m0 then (0, 1, v, 0) else match zfv v ps with
  | some a => a
  | none => (0, 0, 0, (I.getD v (0, 0)).1)
/-- the end fits the pattern -/
def zkp (ct : zCt) : zK := fun r h S => if r.1 = 2 then decide (r.2.1 ∈ ct.2.2.2.2.2.2.2) && decide (ct.2.2.2.1.length ≤ ct.2.2.2.2.2.2.1.length) &&
    zmt (ztf (zthk ct.2.2.2.1.length ct.2.2.2.2.2.2.1 (zprs [] [] [] [] ct.2.2.2.2.2.1 h))) S [] [] h [] [] ct.2.2.2.2.2.1 ct.2.2.2.2.2.2.1
  else decide (r.1 = if ct.2.2.2.2.1.isSome then 0 else 1) && decide (ct.2.2.2.1.length ≤ ct.2.2.2.2.2.2.1.length) &&
  zmt (ztf (zthk ct.2.2.2.1.length ct.2.2.2.2.2.2.1 (zprs [] [] ct.2.2.2.2.1.toList (if r.1 = 0 then [r.2] else []) ct.2.2.2.2.2.1 h))) S [] (if r.1 = 0 then [r.2] else []) h [] ct.2.2.2.2.1.toList ct.2.2.2.2.2.1 ct.2.2.2.2.2.2.1
def zcutok (n0 : Option Nat) (mu : Option zM) (cu : zCu) (lc : zL) (st : List zA) (h : List zC) (S : zS) (nc ns : Nat) : Bool := match n0 with
  | none => false
  | some m0 => decide (st = []) && decide (nc ≤ cu.2.2.2.2.1) && decide (ns ≤ cu.2.2.2.2.2.1) && decide (m0 ≤ cu.2.2.1.length) &&
    zmt (ztf (zthk m0 cu.2.2.1 (zprs cu.1 lc [] [] cu.2.1 h))) (zprop S) lc [] h cu.1 [] cu.2.1 cu.2.2.1 &&
    zfcs (ztf (zthk m0 cu.2.2.1 (zprs cu.1 lc [] [] cu.2.1 h))) (zprop S) cu.2.2.2.2.2.2 && cu.2.2.2.2.2.2.all (fun q => zpl cu.2.2.1.length q.1 && zpl cu.2.2.1.length q.2) &&
    (match mu with
      | none => true
      | some m => zless (zprop S).1 (ztf (zthk m0 cu.2.2.1 (zprs cu.1 lc [] [] cu.2.1 h))) cu.2.2.2.1 m)
def zcok (G : zCf) (i : Nat) (o : zO) (q : List zA × List zA) (nc ns : Nat) : Bool := q.1.all (fun a => decide (¬ a.1 = 1)) && decide (G.1 o.2.2.1 + 1 ≤ G.1 i) && decide (8 + (zmaxL o.2.2.1 + 11) + G.2.1 o.2.2.1 ≤ G.2.1 i) && decide (nc + G.2.2.1 o.2.2.1 ≤ G.2.2.1 i) && decide (ns + G.2.2.2.1 o.2.2.1 ≤ G.2.2.2.1 i) && decide (zwords q.2 ≤ 8) && decide (q.1.length ≤ zmaxL o.2.2.1) && decide (¬ o.2.2.1 = 119)
/-- behind a call by its pattern: the pattern's numbers in ours -/
def zsg (n m0 : Nat) (T : List zA) : Nat → zA := fun v => if v < m0 then ztf T v else (0, 1, n + (v - m0), 0)
def zchk (G : zCf) (rul : Nat → List zI) (bd : Nat) : Nat → Nat → Option Nat → Option zM → Bool → Nat → zL → List zA → List zC → zS → Nat → Nat → zK → Bool
  | 0, _, _, _, _, _, _, _, _, _, _, _, _ => false
  | n + 1, i, n0, mu, go, pc, lc, st, h, S, nc, ns, k =>
    match (if go then none else G.2.2.2.2.2 i pc) with
    | some cu => zcutok n0 mu cu lc st h S nc ns
    | none => match zopf (zopl i) pc with
      | none => false
      | some o =>
        if o.1 = 32 then (match st with
          | [a] => decide (a.1 = 0) && zbl i S a && k (0, a) h S
          | _ => false)
        else if o.1 = 33 then (match st with
          | [] => decide (zret i = none) && k (1, (0, 0, 0, 0)) h S
          | _ => false)
        else if o.1 = 36 then decide (zhh i = []) && decide (5 < G.1 i) && decide (zwords st + 82 ≤ G.2.1 i) && decide (nc + 1 ≤ G.2.2.1 i) && decide (ns + 6 ≤ G.2.2.2.1 i) && k (2, (o.2.2.2.2.1, 0, 0, 0)) h S
        else if o.1 = 50 ∨ o.1 = 51 then (match zargs o st h with
          | none => false
          | some q => zcok G i o q nc ns && (match G.2.2.2.2.1 o.2.2.1 with
            | some ct => decide (ct.1 < bd) && decide (ct.2.2.2.1.length ≤ ct.2.2.2.2.2.2.1.length) && zmt (ztf (zthk 0 ct.2.2.2.1 (zprs [] [] ct.2.1 q.1 ct.2.2.1 h))) S [] q.1 h [] ct.2.1 ct.2.2.1 ct.2.2.2.1 &&
                (ct.2.2.2.2.2.2.2.all (fun x => match zfh (zhh i) pc x with
                  | none => decide (zhh i = []) && k (2, (x, 0, 0, 0)) (ct.2.2.2.2.2.1.map (zsbC (zsg S.1.length ct.2.2.2.1.length (zthk 0 ct.2.2.2.1 (zprs [] [] ct.2.1 q.1 ct.2.2.1 h))))) (S.1 ++ ct.2.2.2.2.2.2.1.drop ct.2.2.2.1.length, S.2.1, S.2.2)
                  | some hp => match zopf (zopl i) hp with
                    | some o2 => if o2.1 = 7 then zchk G rul bd n i n0 mu false (hp + 1) (lc.filter (fun w => !(w.1 == o2.2.2.1) && !(w.1 + 1 == o2.2.2.1 && w.2.1 == 1))) [] (ct.2.2.2.2.2.1.map (zsbC (zsg S.1.length ct.2.2.2.1.length (zthk 0 ct.2.2.2.1 (zprs [] [] ct.2.1 q.1 ct.2.2.1 h))))) (S.1 ++ ct.2.2.2.2.2.2.1.drop ct.2.2.2.1.length, S.2.1, S.2.2) (nc + G.2.2.1 o.2.2.1) (ns + G.2.2.2.1 o.2.2.1) k
                      else if o2.1 = 8 then zchk G rul bd n i n0 mu false (hp + 2) (lc.filter (fun w => !(w.1 == o2.2.2.1) && !(w.1 + 1 == o2.2.2.1 && w.2.1 == 1))) [] (ct.2.2.2.2.2.1.map (zsbC (zsg S.1.length ct.2.2.2.1.length (zthk 0 ct.2.2.2.1 (zprs [] [] ct.2.1 q.1 ct.2.2.1 h))))) (S.1 ++ ct.2.2.2.2.2.2.1.drop ct.2.2.2.1.length, S.2.1, S.2.2) (nc + G.2.2.1 o.2.2.1) (ns + G.2.2.2.1 o.2.2.1) k else false
                    | none => false)) &&
                zchk G rul bd n i n0 mu false (pc + 3) lc (ct.2.2.2.2.1.toList.map (zsb (zsg S.1.length ct.2.2.2.1.length (zthk 0 ct.2.2.2.1 (zprs [] [] ct.2.1 q.1 ct.2.2.1 h)))) ++ q.2) (ct.2.2.2.2.2.1.map (zsbC (zsg S.1.length ct.2.2.2.1.length (zthk 0 ct.2.2.2.1 (zprs [] [] ct.2.1 q.1 ct.2.2.1 h))))) (S.1 ++ ct.2.2.2.2.2.2.1.drop ct.2.2.2.1.length, S.2.1, S.2.2) (nc + G.2.2.1 o.2.2.1) (ns + G.2.2.2.1 o.2.2.1) k
            | none => zchk G rul bd n o.2.2.1 none none false 0 (zent 0 q.1) [] h S 0 0 (fun r h' S' =>
                if r.1 = 0 then zchk G rul bd n i n0 mu false (pc + 3) lc (r.2 :: q.2) h' S' (nc + G.2.2.1 o.2.2.1) (ns + G.2.2.2.1 o.2.2.1) k
                else if r.1 = 1 then zchk G rul bd n i n0 mu false (pc + 3) lc q.2 h' S' (nc + G.2.2.1 o.2.2.1) (ns + G.2.2.2.1 o.2.2.1) k
                else match zfh (zhh i) pc r.2.1 with
                  | none => decide (zhh i = []) && k r h' S'
                  | some hp => match zopf (zopl i) hp with
                    | some o2 => if o2.1 = 7 then zchk G rul bd n i n0 mu false (hp + 1) (lc.filter (fun w => !(w.1 == o2.2.2.1) && !(w.1 + 1 == o2.2.2.1 && w.2.1 == 1))) [] h' S' (nc + G.2.2.1 o.2.2.1) (ns + G.2.2.2.1 o.2.2.1) k
                      else if o2.1 = 8 then zchk G rul bd n i n0 mu false (hp + 2) (lc.filter (fun w => !(w.1 == o2.2.2.1) && !(w.1 + 1 == o2.2.2.1 && w.2.1 == 1))) [] h' S' (nc + G.2.2.1 o.2.2.1) (ns + G.2.2.2.1 o.2.2.1) k else false
                    | none => false)))
        else match zsucc rul (G.1 i) (G.2.1 i) i pc o lc st h S with
          | none => false
          | some L => L.all (fun t => zchk G rul bd n i n0 mu false t.1 t.2.1 t.2.2.1 t.2.2.2.1 t.2.2.2.2 nc ns k)
