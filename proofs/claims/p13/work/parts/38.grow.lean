/-! ===== constructors: the world grows ===== -/
def zaa (n : Nat) (ad ad' : Nat → Nat) : Prop := (∀ v, v < n → ad' v = ad v) ∧ ∀ v, 43 ≤ v → ad' v = ad v
theorem zaa_rf (n : Nat) (ad : Nat → Nat) : zaa n ad ad := ⟨fun _ _ => rfl, fun _ _ => rfl⟩
theorem zaa_tr {n n' : Nat} {ad ad1 ad2 : Nat → Nat} (h : zaa n ad ad1) (h1 : zaa n' ad1 ad2) (hn : n ≤ n') : zaa n ad ad2 := ⟨fun v hv => (h1.1 v (by omega)).trans (h.1 v hv), fun v hv => (h1.2 v hv).trans (h.2 v hv)⟩
/-- a number, nothing, or a cell that is there -/
def zrk (n : Nat) (a : zA) : Bool := decide (a.1 = 0) || decide (a.1 = 1) || decide (a.1 = 3) || decide (a.2.2.1 < n) || decide (43 ≤ a.2.2.1)
def zrk2 (n : Nat) (a : zA) : Bool := decide (a.1 = 3) || decide (a.2.2.1 < n) || decide (43 ≤ a.2.2.1)
theorem zval_ad {e : Nat → Int} {ad ad' : Nat → Nat} {a : zA} (h : ad' a.2.2.1 = ad a.2.2.1) : zval e ad' a = zval e ad a := by
  unfold zval
  rw [h]
theorem zrk_val {n : Nat} {e : Nat → Int} {ad ad' : Nat → Nat} {a : zA} (h : zaa n ad ad') (hk : zrk n a = true) : zval e ad' a = zval e ad a := by
  unfold zrk at hk
  simp only [Bool.or_eq_true, decide_eq_true_eq] at hk
  rcases hk with (((hk | hk) | hk) | hk) | hk
  · rw [zval_0 hk, zval_0 hk]
  · rw [zval_1 hk, zval_1 hk]
  · rw [zval_3 hk, zval_3 hk]
  · exact zval_ad (h.1 _ hk)
  · exact zval_ad (h.2 _ hk)
def zrkA (n : Nat) (lc : zL) (st : List zA) (h : List zC) : Bool := lc.all (fun q => zrk n q.2) && st.all (zrk n) && h.all (fun c => c.2.2.2.2.all (zrk n)) && h.all (fun c => decide (¬ c.1 = 3) || c.2.2.2.2.all (zrk2 n))
theorem zst_ad {n : Nat} {e : Nat → Int} {ad ad' : Nat → Nat} {st : List zA} (h : zaa n ad ad') (hk : ∀ a ∈ st, zrk n a = true) : zst e ad' st = zst e ad st := List.map_congr_left fun a ha => zrk_val h (hk a ha)
theorem zCR_ad {rul : Nat → List zI} {cy : Nat → ClassId} {n : Nat} {e : Nat → Int} {ad ad' : Nat → Nat} {c : zC} {E : va_E} (h : zaa n ad ad') (hk : ∀ a ∈ c.2.2.2.2, zrk n a = true) (hk2 : ¬ c.1 = 3 ∨ ∀ a ∈ c.2.2.2.2, zrk2 n a = true) (hc : zCR rul cy e ad c E) : zCR rul cy e ad' c E := by
  obtain ⟨t, ci, len, r, fs⟩ := c
  have hk : ∀ a ∈ fs, zrk n a = true := hk
  match t, hk2, hc with
  | 0, _, hc =>
    have hc : E = .inr (ci, zst e ad fs) := hc
    show E = .inr (ci, zst e ad' fs)
    rw [zst_ad h hk]
    exact hc
  | 1, _, hc => exact hc
  | 2, _, hc => exact hc
  | 3, hk2, ⟨f, h1, h2, h3⟩ =>
    refine ⟨f, h1, h2, fun j a ha => ?_⟩
    rw [h3 j a ha]
    by_cases ht : a.1 = 3
    · rw [if_pos ht, if_pos ht]
    · rw [if_neg ht, if_neg ht]
      have hz := (hk2.resolve_left (fun q => q rfl)) a (List.mem_of_getElem? ha)
      unfold zrk2 at hz
      simp only [Bool.or_eq_true, decide_eq_true_eq] at hz
      rcases hz with (hz | hz) | hz
      · exact absurd hz ht
      · rw [h.1 _ hz]
      · rw [h.2 _ hz]
  | 4, _, hc => exact hc
  | 5, _, hc => exact hc
  | t + 6, _, hc => exact hc
section ZG
variable {rul : Nat → List zI} {D : va_G} {cy : Nat → ClassId} {ad ad' : Nat → Nat} {A : Nat → Prop} {nL : Nat} {H0 : Heap} {e : Nat → Int} {lc : zL} {st : List zA} {h : List zC} {S : zS} {ws : va_W} {H H1 : Heap} {locs locs1 : List Loc} {ls : Array Slot}
theorem zrkA_ok {n : Nat} (hk : zrkA n lc st h = true) : (∀ q ∈ lc, zrk n q.2 = true) ∧ (∀ a ∈ st, zrk n a = true) ∧ (∀ c ∈ h, ∀ a ∈ c.2.2.2.2, zrk n a = true) ∧ ∀ c ∈ h, ¬ c.1 = 3 ∨ ∀ a ∈ c.2.2.2.2, zrk2 n a = true := by
  unfold zrkA at hk
  simp only [Bool.and_eq_true] at hk
  obtain ⟨⟨⟨k1, k2⟩, k3⟩, k4⟩ := hk
  refine ⟨List.all_eq_true.mp k1, List.all_eq_true.mp k2, fun c hc => List.all_eq_true.mp (List.all_eq_true.mp k3 c hc), fun c hc => ?_⟩
  have := List.all_eq_true.mp k4 c hc
  simp only [Bool.or_eq_true, decide_eq_true_eq] at this
  exact this.imp id (fun q => List.all_eq_true.mp q)
theorem zHR_ad (hr : zHR rul cy e ad h ws) (hz : zaa h.length ad ad') (k3 : ∀ c ∈ h, ∀ a ∈ c.2.2.2.2, zrk h.length a = true) (k4 : ∀ c ∈ h, ¬ c.1 = 3 ∨ ∀ a ∈ c.2.2.2.2, zrk2 h.length a = true) : zHR rul cy e ad' h ws := by
  refine ⟨hr.1, fun i c hc => ?_⟩
  obtain ⟨E, q1, q2⟩ := hr.2 i c hc
  have hm := List.mem_of_getElem? hc
  exact ⟨E, by rw [hz.1 i (List.getElem?_eq_some_iff.mp hc).1]; exact q1, zCR_ad hz (k3 c hm) (k4 c hm) q2⟩
theorem zlv_ad (hz : zaa h.length ad ad') (k1 : ∀ q ∈ lc, zrk h.length q.2 = true) : zlv e ad' lc = zlv e ad lc := List.map_congr_left fun q hq => by rw [zrk_val hz (k1 q hq)]
/-- the addresses of the new cells -/
def zgr (ad : Nat → Nat) (n : Nat) (es : va_W) : Nat → Nat := fun v => if n ≤ v then (match es[v - n]? with
  | some x => x.1
  | none => ad v) else ad v
theorem zgr_aa {n : Nat} {es : va_W} (h : n + es.length ≤ 43) : zaa n ad (zgr ad n es) := by
  refine ⟨fun v hv => ?_, fun v hv => ?_⟩
  · unfold zgr
    rw [if_neg (by omega)]
  · unfold zgr
    rw [if_pos (by omega), List.getElem?_eq_none (by omega)]
theorem zI_grow {cs : List zC} {es : va_W} (hi : zInv rul D cy ad A nL H0 e lc st h S ws H locs ls) (hl : cs.length = es.length) (h43 : h.length + es.length ≤ 43) (hk : zrkA h.length lc st h = true)
    (hcs : ∀ (j : Nat) (c : zC) (x : Nat × va_E), cs[j]? = some c → es[j]? = some x → zCR rul cy e (zgr ad h.length es) c x.2) (hwf : ∀ c ∈ cs, ∀ a ∈ c.2.2.2.2, zwf S.1.length a)
    (hP1 : va_P D vwCl (ws ++ es) H1) (hD1 : va_D A (ws ++ es)) (hS1 : va_S A H0 H1 locs1) : zInv rul D cy (zgr ad h.length es) A nL H0 e lc st (h ++ cs) S (ws ++ es) H1 locs1 ls ∧ zst e (zgr ad h.length es) st = zst e ad st := by
  have hz := zgr_aa (ad := ad) h43
  obtain ⟨k1, k2, k3, k4⟩ := zrkA_ok hk
  obtain ⟨h1, h2, h3, h4, h5, h6, h7, h8, h9⟩ := hi
  have h5' := zHR_ad h5 hz k3 k4
  refine ⟨⟨h1, h2, h3, fun c hc => ?_, ⟨by rw [List.length_append, List.length_append, h5.1, hl], fun i c hc => ?_⟩, hP1, hD1, hS1, by rw [zlv_ad hz k1]; exact h9⟩, zst_ad hz k2⟩
  · rcases List.mem_append.mp hc with hc | hc
    · exact h4 c hc
    · exact hwf c hc
  · by_cases hlt : i < h.length
    · rw [List.getElem?_append_left hlt] at hc
      obtain ⟨E, q1, q2⟩ := h5'.2 i c hc
      exact ⟨E, by rw [List.getElem?_append_left (by rw [h5.1]; exact hlt)]; exact q1, q2⟩
    · rw [List.getElem?_append_right (by omega)] at hc
      have hj := (List.getElem?_eq_some_iff.mp hc).1
      have hx : es[i - h.length]? = some es[i - h.length] := List.getElem?_eq_getElem (by omega)
      refine ⟨es[i - h.length].2, ?_, hcs _ c _ hc hx⟩
      rw [List.getElem?_append_right (by rw [h5.1]; omega), h5.1, hx]
      have : zgr ad h.length es i = es[i - h.length].1 := by
        unfold zgr
        rw [if_pos (by omega), hx]
      rw [this]
end ZG
/-- an array of noughts, as the picture has it -/
def zzr (rc : Nat → List zI) (c : zC) : Bool :=
  (decide (c.1 = 2 ∧ c.2.1 = 0 ∧ c.2.2.2.1 < 100 ∧ ¬ (rc c.2.2.2.1).length = 0) && (rc c.2.2.2.1).all (fun i => decide (i.1 ≤ 0 ∧ 0 ≤ i.2)) && decide (c.2.2.2.2 = if c.2.2.2.1 = 2 then [(0, 0, 0, 0)] else [])) ||
  (decide (c.1 = 1 ∧ c.2.1 = 0 ∧ c.2.2.2.2 = List.replicate c.2.2.1 (0, 0, 0, 0))) || (decide (c.1 = 4 ∧ c.2.1 = 1 ∧ c.2.2.2.2 = List.replicate c.2.2.1 (1, 0, 0, 0)))
def zz0 (c : zC) : vp_A := (c.2.2.1, if c.1 = 4 then .inr (.inl fun _ => 0) else .inl fun _ => 0)
theorem zzr_ok {rul rc : Nat → List zI} {cy : Nat → ClassId} {e : Nat → Int} {ad : Nat → Nat} {c : zC} (hrl : ∀ r, r < 100 → rc r = rul r) (h : zzr rc c = true) : zCR rul cy e ad c (.inl (cy c.2.1, zz0 c)) := by
  obtain ⟨t, ci, len, r, fs⟩ := c
  unfold zzr at h
  simp only [Bool.or_eq_true, Bool.and_eq_true, decide_eq_true_eq] at h
  rcases h with (⟨⟨⟨rfl, rfl, h3, h4⟩, h5⟩, h6⟩ | ⟨rfl, rfl, h3⟩) | ⟨rfl, rfl, h3⟩
  · have h0 : (0 : Int32).toInt = 0 := by decide
    rw [hrl r h3] at h4 h5
    refine ⟨fun _ => 0, rfl, fun j _ => ?_, ?_⟩
    · have hlt : j % (rul r).length < (rul r).length := Nat.mod_lt _ (by omega)
      have := List.all_eq_true.mp h5 _ (List.getElem_mem hlt)
      simp only [decide_eq_true_eq] at this
      exact ⟨(rul r)[j % (rul r).length], List.getElem?_eq_getElem hlt, by show _ ≤ (0 : Int32).toInt; rw [h0]; exact this.1, by show (0 : Int32).toInt ≤ _; rw [h0]; exact this.2⟩
    · by_cases r1 : r = 1
      · subst r1
        rw [if_neg (by decide)] at h6
        subst h6
        exact zX_1i (show zPw (fun _ => 0) (-1) from fun r k _ _ => Or.inl (by show (0 : Int32).toInt ≤ _; rw [h0]; omega))
      · by_cases r2 : r = 2
        · subst r2
          rw [if_pos rfl] at h6
          subst h6
          refine zX_2i (show ∀ k : Nat, k < 3 → (k : Int) < zv e (0, 0, 0, 0) → 1 ≤ ((fun _ => 0 : Nat → Int32) k).toInt from fun k _ hk => ?_)
          rw [zv_c] at hk
          omega
        · exact zX_o r1 r2
  · subst h3
    refine ⟨fun _ => 0, rfl, by show (List.replicate len _).length = len; rw [List.length_replicate], fun j a ha => ?_⟩
    rw [List.eq_of_mem_replicate (List.mem_of_getElem? ha), zv_c]
    rfl
  · subst h3
    refine ⟨fun _ => 0, rfl, by show (List.replicate len _).length = len; rw [List.length_replicate], fun j a ha => ?_⟩
    rw [List.eq_of_mem_replicate (List.mem_of_getElem? ha)]
    have : zv e (1, 0, 0, 0) = 0 := by unfold zv; simp
    rw [this]
    rfl
theorem zzr_wf {rc : Nat → List zI} {c : zC} {n : Nat} (h : zzr rc c = true) : ∀ a ∈ c.2.2.2.2, zwf n a := by
  obtain ⟨t, ci, len, r, fs⟩ := c
  unfold zzr at h
  simp only [Bool.or_eq_true, Bool.and_eq_true, decide_eq_true_eq] at h
  intro a ha
  have ha : a ∈ fs := ha
  rcases h with (⟨-, h6⟩ | ⟨-, -, h3⟩) | ⟨-, -, h3⟩
  · rw [h6] at ha
    split at ha
    · rw [List.mem_singleton.mp ha]; exact Or.inl rfl
    · cases ha
  · rw [h3] at ha
    rw [List.eq_of_mem_replicate ha]; exact Or.inl rfl
  · rw [h3] at ha
    rw [List.eq_of_mem_replicate ha]; exact Or.inl rfl
