/-! ===== one instruction of the listing: where the picture goes ===== -/
abbrev zT : Type := Nat × zL × List zA × List zC × zS
def zwd (q : Nat) (w : Cond) : Bool := decide (lw_tbl[q]? = some w) && goodWord w
theorem zwd_in {q : Nat} {w : Cond} (h : zwd q w = true) : w ∈ zTg := by
  unfold zwd at h
  simp only [Bool.and_eq_true, decide_eq_true_eq] at h
  exact List.mem_filter.mpr ⟨List.mem_of_getElem? h.1, h.2⟩
/-- the listing is right here: the instruction is the code's own, its words are the tables' -/
def zgd (i pc : Nat) (o : zO) : Bool := match o.1 with
  | 1 => if hh : o.2.2.1 < 4 then decide (decode (zcode i) pc = .ok (.iload_n ⟨o.2.2.1, hh⟩, 1)) else false
  | 2 => decide (decode (zcode i) pc = .ok (.iload o.2.2.1, 2))
  | 3 => if hh : o.2.2.1 < 4 then decide (decode (zcode i) pc = .ok (.aload_n ⟨o.2.2.1, hh⟩, 1)) else false
  | 4 => decide (decode (zcode i) pc = .ok (.aload o.2.2.1, 2))
  | 5 => if hh : o.2.2.1 < 4 then decide (decode (zcode i) pc = .ok (.istore_n ⟨o.2.2.1, hh⟩, 1)) && decide (o.2.2.1 < zmaxL i) else false
  | 6 => decide (decode (zcode i) pc = .ok (.istore o.2.2.1, 2)) && decide (o.2.2.1 < zmaxL i)
  | 7 => if hh : o.2.2.1 < 4 then decide (decode (zcode i) pc = .ok (.astore_n ⟨o.2.2.1, hh⟩, 1)) && decide (o.2.2.1 < zmaxL i) else false
  | 8 => decide (decode (zcode i) pc = .ok (.astore o.2.2.1, 2)) && decide (o.2.2.1 < zmaxL i)
  | 9 => decide (decode (zcode i) pc = .ok (.iconst o.2.1, 1))
  | 10 => decide (decode (zcode i) pc = .ok (.bipush o.2.1, 2)) && decide ((Int8.ofInt o.2.1).toInt32 = Int32.ofInt o.2.1)
  | 11 => decide (decode (zcode i) pc = .ok (.sipush o.2.1, 3)) && decide ((Int16.ofInt o.2.1).toInt32 = Int32.ofInt o.2.1)
  | 12 => decide (decode (zcode i) pc = .ok (.iadd, 1))
  | 13 => decide (decode (zcode i) pc = .ok (.isub, 1))
  | 14 => decide (decode (zcode i) pc = .ok (.imul, 1))
  | 15 => decide (decode (zcode i) pc = .ok (.irem, 1))
  | 17 => decide (decode (zcode i) pc = .ok (.iinc o.2.2.1 o.2.1, 3)) && decide (o.2.2.1 < zmaxL i)
  | 18 => decide (decode (zcode i) pc = .ok (.goto o.2.1, 3)) && decide ((pc : Int) + o.2.1 = (o.2.2.1 : Int))
  | 19 => decide (decode (zcode i) pc = .ok (.ifCond (zcnd o.2.2.2.1) o.2.1, 3)) && decide ((pc : Int) + o.2.1 = (o.2.2.1 : Int))
  | 20 => decide (decode (zcode i) pc = .ok (.if_icmp (zcnd o.2.2.2.1) o.2.1, 3)) && decide ((pc : Int) + o.2.1 = (o.2.2.1 : Int))
  | 21 => match vwCl[o.2.2.1]? with
    | some r => decide (decode (zcode i) pc = .ok (.getfield o.2.1.toNat, 3)) && decide (o.2.2.2.1 < r.2.2) && zwd o.2.2.2.2.1 (.fieldLink (zy i).cls o.2.1.toNat (r.2.1 o.2.2.2.1).1 (r.2.1 o.2.2.2.1).2.1 (r.2.1 o.2.2.2.1).2.2.1)
    | none => false
  | 22 => match vwCl[o.2.2.1]? with
    | some r => decide (decode (zcode i) pc = .ok (.putfield o.2.1.toNat, 3)) && decide (o.2.2.2.1 < r.2.2) && zwd o.2.2.2.2.1 (.fieldLink (zy i).cls o.2.1.toNat (r.2.1 o.2.2.2.1).1 (r.2.1 o.2.2.2.1).2.1 (r.2.1 o.2.2.2.1).2.2.1) && decide ((r.2.1 o.2.2.2.1).2.2.2 = false) && (decide (parseFieldDescriptor (r.2.1 o.2.2.2.1).2.2.1 = some .int) || decide (parseFieldDescriptor (r.2.1 o.2.2.2.1).2.2.1 = some .boolean))
    | none => false
  | 23 => decide (decode (zcode i) pc = .ok (.iaload, 1))
  | 24 => decide (decode (zcode i) pc = .ok (.iastore, 1))
  | 25 => decide (decode (zcode i) pc = .ok (.aaload, 1))
  | 26 => decide (decode (zcode i) pc = .ok (.lastore, 1))
  | 27 => decide (decode (zcode i) pc = .ok (.i2l, 1))
  | 28 => if hh : o.2.1.toNat < 2 then decide (decode (zcode i) pc = .ok (.lconst ⟨o.2.1.toNat, hh⟩, 1)) else false
  | 29 => decide (decode (zcode i) pc = .ok (.dup, 1))
  | 30 => decide (decode (zcode i) pc = .ok (.dup2, 1))
  | 31 => decide (decode (zcode i) pc = .ok (.pop, 1))
  | 32 => decide (decode (zcode i) pc = .ok (.ireturn, 1))
  | 33 => decide (decode (zcode i) pc = .ok (.return_, 1))
  | 37 => decide (decode (zcode i) pc = .ok (.tableswitch ((o.2.2.1 : Int) - (pc : Int)) o.2.1 (o.2.1 + (o.2.2.2.1 : Int) - 1) ((o.2.2.2.2.2.map (fun t : Nat => (t : Int) - (pc : Int))).toArray), o.2.2.2.2.1)) && decide (o.2.2.2.2.2.length = o.2.2.2.1)
  | 38 => decide (decode (zcode i) pc = .ok (.invokestatic o.2.1.toNat, 3)) && zwd (o.2.2.2.2.2.getD 0 0) (.methodLink (zy i).cls o.2.1.toNat arraycopyName) && zwd (o.2.2.2.2.2.getD 1 0) (.native arraycopyName) && zwd (o.2.2.2.2.2.getD 2 0) (.static arraycopyName) && zwd (o.2.2.2.2.2.getD 3 0) (.initialized "java/lang/System")
  | 40 => decide (decode (zcode i) pc = .ok (.laload, 1))
  | 41 => decide (decode (zcode i) pc = .ok (.lcmp, 1))
  | 62 => decide (decode (zcode i) pc = .ok (.iaload, 1))
  | 61 => decide (decode (zcode i) pc = .ok (.ifCond .eq o.2.1, 3)) && decide ((pc : Int) + o.2.1 = (o.2.2.1 : Int))
  | 42 => decide (decode (zcode i) pc = .ok (.ixor, 1))
  | 43 => decide (decode (zcode i) pc = .ok (.arraylength, 1))
  | 44 => decide (decode (zcode i) pc = .ok (.iand, 1))
  | 60 => match vwCl[4]? with
    | some r => (if hh : o.2.2.1 < 4 then decide (decode (zcode i) pc = .ok (.iload_n ⟨o.2.2.1, hh⟩, 1)) && decide (decode (zcode i) (pc + 15) = .ok (.iload_n ⟨o.2.2.1, hh⟩, 1)) && decide (decode (zcode i) (pc + 20) = .ok (.iload_n ⟨o.2.2.1, hh⟩, 1)) else false) &&
        (decide (decode (zcode i) (pc + 1) = .ok (.bipush 13, 2)) && decide (decode (zcode i) (pc + 3) = .ok (.aload_n 0, 1)) && decide (decode (zcode i) (pc + 4) = .ok (.getfield o.2.1.toNat, 3)) && decide (decode (zcode i) (pc + 7) = .ok (.imul, 1)) && decide (decode (zcode i) (pc + 8) = .ok (.if_icmp .ge 21, 3)) && decide (decode (zcode i) (pc + 11) = .ok (.aload_n 0, 1)) && decide (decode (zcode i) (pc + 12) = .ok (.getfield (o.2.2.2.2.2.getD 1 0), 3)) &&
        decide (decode (zcode i) (pc + 16) = .ok (.aload_n 0, 1)) && decide (decode (zcode i) (pc + 17) = .ok (.getfield (o.2.2.2.2.2.getD 2 0), 3)) && decide (decode (zcode i) (pc + 21) = .ok (.iaload, 1)) && decide (decode (zcode i) (pc + 22) = .ok (.iastore, 1)) && decide (decode (zcode i) (pc + 23) = .ok (.iinc o.2.2.1 1, 3)) && decide (decode (zcode i) (pc + 26) = .ok (.goto (-26), 3))) &&
        (decide (o.2.2.2.2.2.getD 0 0 < r.2.2) && decide (o.2.2.2.1 < r.2.2) && decide (o.2.2.2.2.1 < r.2.2) && zwd (o.2.2.2.2.2.getD 3 0) (.fieldLink (zy i).cls o.2.1.toNat (r.2.1 (o.2.2.2.2.2.getD 0 0)).1 (r.2.1 (o.2.2.2.2.2.getD 0 0)).2.1 (r.2.1 (o.2.2.2.2.2.getD 0 0)).2.2.1) && zwd (o.2.2.2.2.2.getD 4 0) (.fieldLink (zy i).cls (o.2.2.2.2.2.getD 1 0) (r.2.1 o.2.2.2.1).1 (r.2.1 o.2.2.2.1).2.1 (r.2.1 o.2.2.2.1).2.2.1) && zwd (o.2.2.2.2.2.getD 5 0) (.fieldLink (zy i).cls (o.2.2.2.2.2.getD 2 0) (r.2.1 o.2.2.2.2.1).1 (r.2.1 o.2.2.2.2.1).2.1 (r.2.1 o.2.2.2.2.1).2.2.1) && decide (¬ o.2.2.1 = 0) && decide (o.2.2.1 < zmaxL i))
    | none => false
  | _ => true
/-- the numbers that a place may be, each with what it says -/
def zeach (S : zS) (b : zA) (len : Nat) (g : Nat → List zI → List zT) : List zT := (List.range len).flatMap fun (j : Nat) => match zref 0 S.1 b (0, 0, 0, (j : Int)) with
  | none => []
  | some L' => g j L'
def zbr (op : Nat) (S : zS) (a b : zA) (t : Nat) (lc : zL) (st : List zA) (h : List zC) : List zT := match zref op S.1 a b with
  | none => []
  | some L' => [(t, lc, st, h, (L', zfact op a b ++ S.2.1, S.2.2))]
def zsw (op : Nat) (S : zS) (a b : zA) (t : Nat) (lc : zL) (st : List zA) (h : List zC) : List zT := match zref op S.1 a b with
  | none => []
  | some L' => [(t, lc, st, h, (L', S.2.1, S.2.2))]
def zs_ld (t len j pc : Nat) (lc : zL) (st : List zA) (h : List zC) (S : zS) : Option (List zT) := match zget lc j with
  | some a => if a.1 = t then some [(pc + len, lc, a :: st, h, S)] else none
  | none => none
def zs_sto (t len j pc : Nat) (lc : zL) (st : List zA) (h : List zC) (S : zS) : Option (List zT) := match st with
  | a :: r => if a.1 = t then some [(pc + len, zput lc j a, r, h, S)] else none
  | [] => none
def zs_ar (f : zS → zA → zA → zS × zA) (pc : Nat) (lc : zL) (st : List zA) (h : List zC) (S : zS) : Option (List zT) := match st with
  | b :: a :: r => if a.1 = 0 ∧ b.1 = 0 then some [(pc + 1, lc, (f S a b).2 :: r, h, (f S a b).1)] else none
  | _ => none
def zs_rem (pc : Nat) (lc : zL) (st : List zA) (h : List zC) (S : zS) : Option (List zT) := match st with
  | b :: a :: r => if a.1 = 0 ∧ b.1 = 0 ∧ b.2.1 = 0 ∧ b.2.2.1 = 0 ∧ 0 < b.2.2.2 ∧ b.2.2.2 ≤ 2147483647 ∧ z32 S.1 a = true then some ((match zref 2 S.1 a (0, 0, 0, 0) with
      | none => []
      | some L' => [(pc + 1, lc, zvar (L', S.2.1, S.2.2) :: r, h, zpush (L', S.2.1, S.2.2) (1 - b.2.2.2, 0))]) ++ (match zref 3 S.1 a (0, 0, 0, 0) with
      | none => []
      | some L' => [(pc + 1, lc, zvar (L', S.2.1, S.2.2) :: r, h, zpush (L', S.2.1, S.2.2) (0, b.2.2.2 - 1))])) else none
  | _ => none
def zs_inc (n : Int) (j pc : Nat) (lc : zL) (st : List zA) (h : List zC) (S : zS) : Option (List zT) := match zget lc j with
  | some a => if a.1 = 0 then some [(pc + 3, zput lc j (zadd S a (0, 0, 0, n)).2, st, h, (zadd S a (0, 0, 0, n)).1)] else none
  | none => none
def zs_if (op t pc : Nat) (lc : zL) (st : List zA) (h : List zC) (S : zS) : Option (List zT) := match st with
  | a :: r => if a.1 = 0 ∧ z32 S.1 a = true then some (zbr op S a (0, 0, 0, 0) t lc r h ++ zbr (znot op) S a (0, 0, 0, 0) (pc + 3) lc r h) else none
  | [] => none
def zs_icmp (op t pc : Nat) (lc : zL) (st : List zA) (h : List zC) (S : zS) : Option (List zT) := match st with
  | b :: a :: r => if a.1 = 0 ∧ b.1 = 0 ∧ z32 S.1 a = true ∧ z32 S.1 b = true then some (zbr op S a b t lc r h ++ zbr (znot op) S a b (pc + 3) lc r h) else none
  | _ => none
def zs_get (ci k pc : Nat) (lc : zL) (st : List zA) (h : List zC) (S : zS) : Option (List zT) := match st with
  | a :: r => if a.1 = 2 then (match h[a.2.2.1]? with
    | some c => if c.1 = 0 ∧ c.2.1 = ci then (match c.2.2.2.2[k]? with
      | some b => some [(pc + 3, lc, b :: r, h, S)]
      | none => none) else none
    | none => none) else none
  | [] => none
def zs_put (ci k pc : Nat) (z : Bool) (lc : zL) (st : List zA) (h : List zC) (S : zS) : Option (List zT) := match st with
  | b :: a :: r => if a.1 = 2 ∧ b.1 = 0 then (match h[a.2.2.1]? with
    | some c => if c.1 = 0 ∧ c.2.1 = ci ∧ k < c.2.2.2.2.length ∧ (z = false ∨ zin S.1 b 0 1 = true) then some [(pc + 3, lc, r, h.set a.2.2.1 (0, ci, c.2.2.1, c.2.2.2.1, c.2.2.2.2.set k b), S)] else none
    | none => none) else none
  | _ => none
def zs_scr (i : Nat) (b : zA) (pc : Nat) (lc : zL) (r : List zA) (h : List zC) (S : zS) : Option (List zT) := if i = 119 ∧ zsix S b = true then (match zsfd b S.2.2 with
    | some v => some [(pc + 1, lc, (0, 1, v, 0) :: r, h, S)]
    | none => some [(pc + 1, lc, zvar S :: r, h, ((zpush S zfull).1, (zpush S zfull).2.1, (S.1.length, 100, b) :: (zpush S zfull).2.2))]) else none
def zs_iald (rul : Nat → List zI) (i pc : Nat) (lc : zL) (st : List zA) (h : List zC) (S : zS) : Option (List zT) := match st with
  | b :: a :: r => if a.1 = 2 ∧ b.1 = 0 then (match h[a.2.2.1]? with
    | some c => if c.2.2.2.1 < 100 ∧ c.2.1 = 0 ∧ c.2.2.1 < 2147483648 ∧ zin S.1 b 0 ((c.2.2.1 : Int) - 1) = true then
        (if c.1 = 2 then some [(pc + 1, lc, zvar S :: r, h.set a.2.2.1 (2, 0, c.2.2.1, c.2.2.2.1, zrp c.2.2.2.1 b (zvar S) c.2.2.2.2), ((zpush S (zrb c.2.2.2.1 S c.2.2.2.2 b (zrd (rul c.2.2.2.1) b))).1, (zpush S (zrb c.2.2.2.1 S c.2.2.2.2 b (zrd (rul c.2.2.2.1) b))).2.1, (S.1.length, c.2.2.2.1, b) :: (zpush S (zrb c.2.2.2.1 S c.2.2.2.2 b (zrd (rul c.2.2.2.1) b))).2.2))]
        else if c.1 = 1 ∧ c.2.2.2.2.all (fun d => d.1 == 0) = true then some (zeach S b c.2.2.1 (fun j L' => match c.2.2.2.2[j]? with
          | some d => [(pc + 1, lc, d :: r, h, (L', S.2.1, S.2.2))]
          | none => [])) else none) else none
    | none => if a = (2, 0, 43, 0) then zs_scr i b pc lc r h S else none) else none
  | _ => none
def zs_iast (rul : Nat → List zI) (pc : Nat) (lc : zL) (st : List zA) (h : List zC) (S : zS) : Option (List zT) := match st with
  | d :: b :: a :: r => if a.1 = 2 ∧ b.1 = 0 ∧ d.1 = 0 then (match h[a.2.2.1]? with
    | some c => if c.2.2.2.1 < 100 ∧ c.2.1 = 0 ∧ c.2.2.1 < 2147483648 ∧ zin S.1 b 0 ((c.2.2.1 : Int) - 1) = true then
        (if c.1 = 2 then (if zwr S c.2.2.2.1 (rul c.2.2.2.1) b d = true then (match zwp c.2.2.2.1 S b d c.2.2.2.2 with
          | some fs' => some [(pc + 1, lc, r, h.set a.2.2.1 (2, 0, c.2.2.1, c.2.2.2.1, fs'), S)]
          | none => none) else none)
        else if c.1 = 1 then some (zeach S b c.2.2.1 (fun j L' => [(pc + 1, lc, r, h.set a.2.2.1 (1, 0, c.2.2.1, c.2.2.2.1, c.2.2.2.2.set j d), (L', S.2.1, S.2.2))])) else none) else none
    | none => none) else none
  | _ => none
def zs_aald (pc : Nat) (lc : zL) (st : List zA) (h : List zC) (S : zS) : Option (List zT) := match st with
  | b :: a :: r => if a.1 = 2 ∧ b.1 = 0 then (match h[a.2.2.1]? with
    | some c => if c.1 = 3 ∧ (c.2.1 = 2 ∨ c.2.1 = 3) ∧ c.2.2.1 < 2147483648 ∧ zin S.1 b 0 ((c.2.2.1 : Int) - 1) = true ∧ c.2.2.2.2.all (fun d => d.1 == 2) = true then some (zeach S b c.2.2.1 (fun j L' => match c.2.2.2.2[j]? with
          | some d => [(pc + 1, lc, d :: r, h, (L', S.2.1, S.2.2))]
          | none => [])) else none
    | none => none) else none
  | _ => none
def zs_last (pc : Nat) (lc : zL) (st : List zA) (h : List zC) (S : zS) : Option (List zT) := match st with
  | d :: b :: a :: r => if a.1 = 2 ∧ b.1 = 0 ∧ d.1 = 1 ∧ b.2.1 = 0 then (match h[a.2.2.1]? with
    | some c => if c.1 = 4 ∧ c.2.1 = 1 ∧ c.2.2.1 < 2147483648 ∧ zin S.1 b ((b.2.2.2.toNat : Nat) : Int) ((b.2.2.2.toNat : Nat) : Int) = true ∧ b.2.2.2.toNat < c.2.2.1 then some [(pc + 1, lc, r, h.set a.2.2.1 (4, 1, c.2.2.1, c.2.2.2.1, c.2.2.2.2.set b.2.2.2.toNat d), S)] else none
    | none => none) else none
  | _ => none
def zs_lald (pc : Nat) (lc : zL) (st : List zA) (h : List zC) (S : zS) : Option (List zT) := match st with
  | b :: a :: r => if a.1 = 2 ∧ b.1 = 0 ∧ b.2.1 = 0 then (match h[a.2.2.1]? with
    | some c => if c.1 = 4 ∧ c.2.1 = 1 ∧ c.2.2.1 < 2147483648 ∧ zin S.1 b ((b.2.2.2.toNat : Nat) : Int) ((b.2.2.2.toNat : Nat) : Int) = true ∧ b.2.2.2.toNat < c.2.2.1 then (match c.2.2.2.2[b.2.2.2.toNat]? with
      | some d => if d.1 = 1 then some [(pc + 1, lc, d :: r, h, S)] else none
      | none => none) else none
    | none => none) else none
  | _ => none
def zs_lcmp (pc : Nat) (lc : zL) (st : List zA) (h : List zC) (S : zS) : Option (List zT) := match st with
  | b :: a :: r => if a.1 = 1 ∧ b.1 = 1 ∧ a.2 = b.2 then some [(pc + 1, lc, (0, 0, 0, 0) :: r, h, S)] else none
  | _ => none
def zs_ialdA (pc : Nat) (lc : zL) (st : List zA) (h : List zC) (S : zS) : Option (List zT) := match st with
  | b :: a :: r => if a.1 = 2 ∧ b.1 = 0 then (match h[a.2.2.1]? with
    | some c => if c.1 = 1 ∧ c.2.1 = 0 ∧ c.2.2.1 < 2147483648 ∧ zin S.1 b 0 ((c.2.2.1 : Int) - 1) = true then some [(pc + 1, lc, zvar S :: r, h, zpush S zfull)] else none
    | none => none) else none
  | _ => none
def zs_if3 (t pc : Nat) (lc : zL) (st : List zA) (h : List zC) (S : zS) : Option (List zT) := match st with
  | a :: r => if a.1 = 0 ∧ z32 S.1 a = true then some (zbr 0 S a (0, 0, 0, 0) t lc r h ++ (zbr 2 S a (0, 0, 0, 0) (pc + 3) lc r h ++ zbr 4 S a (0, 0, 0, 0) (pc + 3) lc r h)) else none
  | [] => none
def zs_xor (pc : Nat) (lc : zL) (st : List zA) (h : List zC) (S : zS) : Option (List zT) := match st with
  | b :: a :: r => if a.1 = 0 ∧ b.1 = 0 ∧ z32 S.1 a = true ∧ zin S.1 b 0 2147483647 = true then some ((match zref 2 S.1 a (0, 0, 0, 0) with
      | none => []
      | some L' => [(pc + 1, lc, zvar (L', S.2.1, S.2.2) :: r, h, zpush (L', S.2.1, S.2.2) (-2147483648, -1))]) ++ (match zref 3 S.1 a (0, 0, 0, 0) with
      | none => []
      | some L' => [(pc + 1, lc, zvar (L', S.2.1, S.2.2) :: r, h, zpush (L', S.2.1, S.2.2) (0, 2147483647))])) else none
  | _ => none
def zs_tab (lo : Int) (t n : Nat) (ts : List Nat) (lc : zL) (st : List zA) (h : List zC) (S : zS) : Option (List zT) := match st with
  | a :: r => if a.1 = 0 ∧ z32 S.1 a = true then some (zsw 2 S a (0, 0, 0, lo) t lc r h ++ (zsw 4 S a (0, 0, 0, lo + (n : Int) - 1) t lc r h ++ (List.range n).flatMap (fun (j : Nat) => match ts[j]? with
      | some t2 => zsw 0 S a (0, 0, 0, lo + (j : Int)) t2 lc r h
      | none => []))) else none
  | [] => none
def zwords (st : List zA) : Nat := (st.map fun a => if a.1 = 1 then 2 else 1).sum
def zs_cpy (fr lo pc : Nat) (lc : zL) (st : List zA) (h : List zC) (S : zS) : Option (List zT) := match st with
  | n :: dp :: qd :: sp :: qs :: r => if n.1 = 0 ∧ dp.1 = 0 ∧ qd.1 = 2 ∧ sp.1 = 0 ∧ qs.1 = 2 ∧ 1 ≤ fr ∧ zwords r + (nativeFrameWords "java/lang/System" "arraycopy" 5 + 11) ≤ lo ∧ zin S.1 dp 0 0 = true ∧ zin S.1 sp 0 0 = true then (match h[qd.2.2.1]? with
    | some c => (match h[qs.2.2.1]? with
      | some c2 => if c.1 = 2 ∧ c2.1 = 2 ∧ c.2.1 = 0 ∧ c2.2.1 = 0 ∧ c.2.2.2.1 = c2.2.2.2.1 ∧ ¬ c.2.2.2.1 = 1 ∧ ¬ c.2.2.2.1 = 2 ∧ c.2.2.1 < 2147483648 ∧ c2.2.2.1 < 2147483648 ∧ zin S.1 n 0 (c2.2.2.1 : Int) = true ∧ zin S.1 n 0 (c.2.2.1 : Int) = true then some [(pc + 3, lc, r, h, S)] else none
      | none => none)
    | none => none) else none
  | _ => none
def zs_1 (f : zA → List zA → Option (List zA)) (len pc : Nat) (lc : zL) (st : List zA) (h : List zC) (S : zS) : Option (List zT) := match st with
  | a :: r => match f a r with
    | some st' => some [(pc + len, lc, st', h, S)]
    | none => none
  | [] => none
def zs_alen (i pc : Nat) (lc : zL) (st : List zA) (h : List zC) (S : zS) : Option (List zT) := match st with
  | a :: r => if i = 119 ∧ a = (2, 0, 43, 0) then some [(pc + 1, lc, zvar S :: r, h, ((zpush S (0, 3072)).1, (zpush S (0, 3072)).2.1, (S.1.length, 101, (0, 0, 0, 0)) :: (zpush S (0, 3072)).2.2))] else none
  | [] => none
def zs_and (pc : Nat) (lc : zL) (st : List zA) (h : List zC) (S : zS) : Option (List zT) := match st with
  | b :: a :: r => if a.1 = 0 ∧ b = (0, 0, 0, 31) then some [(pc + 1, lc, zvar S :: r, h, zpush S (0, 31))] else none
  | _ => none
def zs_loop (kl kz kd ks pc : Nat) (lc : zL) (st : List zA) (h : List zC) (S : zS) : Option (List zT) := match zget lc kl with
  | some k0 => (match zget lc 0 with
    | some me => (match h[me.2.2.1]? with
      | some c => (match c.2.2.2.2[kz]? with
        | some sz => (match c.2.2.2.2[kd]? with
          | some ds => (match c.2.2.2.2[ks]? with
            | some sr => (match h[ds.2.2.1]? with
              | some cd => (match h[sr.2.2.1]? with
                | some cs => if (st = [] ∧ k0 = (0, 0, 0, 0) ∧ me.1 = 2 ∧ c.1 = 0 ∧ c.2.1 = 4) ∧ (sz.1 = 0 ∧ zin S.1 sz 0 400 = true ∧ ds.1 = 2 ∧ sr.1 = 2 ∧ ¬ ds.2.2.1 = sr.2.2.1) ∧ (cd.1 = 2 ∧ cd.2.1 = 0 ∧ cd.2.2.1 = 5200 ∧ cd.2.2.2.1 = 1 ∧ cd.2.2.2.2.length < 3) ∧ (cs.1 = 2 ∧ cs.2.1 = 0 ∧ cs.2.2.1 = 5200 ∧ cs.2.2.2.1 = 1 ∧ cs.2.2.2.2.length < 3) then some [(pc + 29, zput lc kl (zvar S), [], h.set ds.2.2.1 (2, 0, 5200, 1, []), zpush S (0, 5200))] else none
                | none => none)
              | none => none)
            | none => none)
          | none => none)
        | none => none)
      | none => none)
    | none => none)
  | none => none
def zsucc (rul : Nat → List zI) (fr lo i pc : Nat) (o : zO) (lc : zL) (st : List zA) (h : List zC) (S : zS) : Option (List zT) := match o.1 with
  | 1 => zs_ld 0 1 o.2.2.1 pc lc st h S
  | 2 => zs_ld 0 2 o.2.2.1 pc lc st h S
  | 3 => zs_ld 2 1 o.2.2.1 pc lc st h S
  | 4 => zs_ld 2 2 o.2.2.1 pc lc st h S
  | 5 => zs_sto 0 1 o.2.2.1 pc lc st h S
  | 6 => zs_sto 0 2 o.2.2.1 pc lc st h S
  | 7 => zs_sto 2 1 o.2.2.1 pc lc st h S
  | 8 => zs_sto 2 2 o.2.2.1 pc lc st h S
  | 9 => some [(pc + 1, lc, (0, 0, 0, o.2.1) :: st, h, S)]
  | 10 => some [(pc + 2, lc, (0, 0, 0, o.2.1) :: st, h, S)]
  | 11 => some [(pc + 3, lc, (0, 0, 0, o.2.1) :: st, h, S)]
  | 12 => zs_ar zadd pc lc st h S
  | 13 => zs_ar zsub pc lc st h S
  | 14 => zs_ar zmul pc lc st h S
  | 15 => zs_rem pc lc st h S
  | 17 => zs_inc o.2.1 o.2.2.1 pc lc st h S
  | 18 => some [(o.2.2.1, lc, st, h, S)]
  | 19 => zs_if o.2.2.2.1 o.2.2.1 pc lc st h S
  | 20 => zs_icmp o.2.2.2.1 o.2.2.1 pc lc st h S
  | 21 => zs_get o.2.2.1 o.2.2.2.1 pc lc st h S
  | 22 => match vwCl[o.2.2.1]? with
    | some r => zs_put o.2.2.1 o.2.2.2.1 pc (decide (parseFieldDescriptor (r.2.1 o.2.2.2.1).2.2.1 = some .boolean)) lc st h S
    | none => none
  | 23 => zs_iald rul i pc lc st h S
  | 24 => zs_iast rul pc lc st h S
  | 25 => zs_aald pc lc st h S
  | 26 => zs_last pc lc st h S
  | 27 => zs_1 (fun a r => if a.1 = 0 ∧ z32 S.1 a = true then some ((1, a.2) :: r) else none) 1 pc lc st h S
  | 28 => some [(pc + 1, lc, (1, 0, 0, ((o.2.1.toNat : Nat) : Int)) :: st, h, S)]
  | 29 => zs_1 (fun a r => if a.1 = 1 then none else some (a :: a :: r)) 1 pc lc st h S
  | 30 => zs_1 (fun b r => match r with
      | a :: r2 => if a.1 = 1 ∨ b.1 = 1 then none else some (b :: a :: b :: a :: r2)
      | [] => none) 1 pc lc st h S
  | 31 => zs_1 (fun a r => if a.1 = 1 then none else some r) 1 pc lc st h S
  | 37 => zs_tab o.2.1 o.2.2.1 o.2.2.2.1 o.2.2.2.2.2 lc st h S
  | 38 => zs_cpy fr lo pc lc st h S
  | 40 => zs_lald pc lc st h S
  | 41 => zs_lcmp pc lc st h S
  | 62 => zs_ialdA pc lc st h S
  | 61 => zs_if3 o.2.2.1 pc lc st h S
  | 42 => zs_xor pc lc st h S
  | 43 => zs_alen i pc lc st h S
  | 44 => zs_and pc lc st h S
  | 60 => zs_loop o.2.2.1 (o.2.2.2.2.2.getD 0 0) o.2.2.2.1 o.2.2.2.2.1 pc lc st h S
  | _ => none
