/-! The abstract heap: three maps (ints, longs, references) by (kind, number) and slot, and how many cells there are; kinds and their places are fixed, as the program makes its cells in one order. -/
abbrev Ad : Type := Nat × Nat
abbrev AV : Type := Int32 ⊕ Int64 ⊕ (Nat × Option Nat)
abbrev aI (x : Int32) : AV := Sum.inl x
abbrev aL (x : Int64) : AV := Sum.inr (Sum.inl x)
abbrev aA (t : Nat) (o : Option Nat) : AV := Sum.inr (Sum.inr (t, o))
abbrev Hp : Type := (Ad → Nat → Int32) × (Ad → Nat → Int64) × (Ad → Nat → Option Nat) × Nat
def gI (h : Hp) (a : Ad) (s : Nat) : Int32 := h.1 a s
def gL (h : Hp) (a : Ad) (s : Nat) : Int64 := h.2.1 a s
def gR (h : Hp) (a : Ad) (s : Nat) : Option Nat := h.2.2.1 a s
def gn (h : Hp) : Nat := h.2.2.2
def sI (h : Hp) (a : Ad) (s : Nat) (v : Int32) : Hp := (fun b t => if b = a ∧ t = s then v else h.1 b t, h.2)
def sL (h : Hp) (a : Ad) (s : Nat) (v : Int64) : Hp := (h.1, fun b t => if b = a ∧ t = s then v else h.2.1 b t, h.2.2)
def sR (h : Hp) (a : Ad) (s : Nat) (v : Option Nat) : Hp := (h.1, h.2.1, fun b t => if b = a ∧ t = s then v else h.2.2.1 b t, h.2.2.2)
def sN (h : Hp) : Hp := (h.1, h.2.1, h.2.2.1, h.2.2.2 + 1)
theorem gI_sI (h : Hp) (a b : Ad) (s t : Nat) (v : Int32) : gI (sI h a s v) b t = if b = a ∧ t = s then v else gI h b t := rfl
theorem gI_sL (h : Hp) (a b : Ad) (s t : Nat) (v : Int64) : gI (sL h a s v) b t = gI h b t := rfl
theorem gI_sR (h : Hp) (a b : Ad) (s t : Nat) (v : Option Nat) : gI (sR h a s v) b t = gI h b t := rfl
theorem gI_sN (h : Hp) (b : Ad) (t : Nat) : gI (sN h) b t = gI h b t := rfl
theorem gL_sL (h : Hp) (a b : Ad) (s t : Nat) (v : Int64) : gL (sL h a s v) b t = if b = a ∧ t = s then v else gL h b t := rfl
theorem gL_sI (h : Hp) (a b : Ad) (s t : Nat) (v : Int32) : gL (sI h a s v) b t = gL h b t := rfl
theorem gL_sR (h : Hp) (a b : Ad) (s t : Nat) (v : Option Nat) : gL (sR h a s v) b t = gL h b t := rfl
theorem gL_sN (h : Hp) (b : Ad) (t : Nat) : gL (sN h) b t = gL h b t := rfl
theorem gR_sR (h : Hp) (a b : Ad) (s t : Nat) (v : Option Nat) : gR (sR h a s v) b t = if b = a ∧ t = s then v else gR h b t := rfl
theorem gR_sI (h : Hp) (a b : Ad) (s t : Nat) (v : Int32) : gR (sI h a s v) b t = gR h b t := rfl
theorem gR_sL (h : Hp) (a b : Ad) (s t : Nat) (v : Int64) : gR (sL h a s v) b t = gR h b t := rfl
theorem gR_sN (h : Hp) (b : Ad) (t : Nat) : gR (sN h) b t = gR h b t := rfl
theorem gn_sI (h : Hp) (a : Ad) (s : Nat) (v : Int32) : gn (sI h a s v) = gn h := rfl
theorem gn_sL (h : Hp) (a : Ad) (s : Nat) (v : Int64) : gn (sL h a s v) = gn h := rfl
theorem gn_sR (h : Hp) (a : Ad) (s : Nat) (v : Option Nat) : gn (sR h a s v) = gn h := rfl
theorem gn_sN (h : Hp) : gn (sN h) = gn h + 1 := rfl
/-- the place of a cell in the order of making, and back -/
def pos (a : Ad) : Nat := if a.1 < 5 then a.1 else if a.1 = 5 then 5 + 2 * a.2 else if a.1 = 6 then 6 + 2 * a.2 else if a.1 < 14 then a.1 + 46 else if a.1 = 14 then 60 + a.2 else if a.1 = 15 then (if a.2 = 0 then 74 else 75 + a.2) else if a.1 = 16 then 75 else a.1 + 42
def unp (k : Nat) : Ad := if k < 5 then (k, 0) else if k < 53 then (5 + (k - 5) % 2, (k - 5) / 2) else if k < 60 then (k - 46, 0) else if k < 62 then (14, k - 60) else if k < 74 then (k - 42, 0) else if k = 74 then (15, 0) else if k = 75 then (16, 1) else (15, k - 75)
theorem pos_unp (k : Nat) : pos (unp k) = k := by
  unfold unp
  by_cases h1 : k < 5
  · rw [if_pos h1]; simp [pos, h1]
  rw [if_neg h1]
  by_cases h2 : k < 53
  · rw [if_pos h2]
    rcases Nat.mod_two_eq_zero_or_one (k - 5) with h | h
    · rw [h]; simp [pos]; omega
    · rw [h]; simp [pos]; omega
  rw [if_neg h2]
  by_cases h3 : k < 60
  · rw [if_pos h3]
    have e1 : ¬ k - 46 < 5 := by omega
    have e2 : ¬ k - 46 = 5 := by omega
    have e3 : ¬ k - 46 = 6 := by omega
    have e4 : k - 46 < 14 := by omega
    simp only [pos, if_neg e1, if_neg e2, if_neg e3, if_pos e4]; omega
  rw [if_neg h3]
  by_cases h4 : k < 62
  · rw [if_pos h4]; simp [pos]; omega
  rw [if_neg h4]
  by_cases h5 : k < 74
  · rw [if_pos h5]
    have e1 : ¬ k - 42 < 5 := by omega
    have e2 : ¬ k - 42 = 5 := by omega
    have e3 : ¬ k - 42 = 6 := by omega
    have e4 : ¬ k - 42 < 14 := by omega
    have e5 : ¬ k - 42 = 14 := by omega
    have e6 : ¬ k - 42 = 15 := by omega
    have e7 : ¬ k - 42 = 16 := by omega
    simp only [pos, if_neg e1, if_neg e2, if_neg e3, if_neg e4, if_neg e5, if_neg e6, if_neg e7]; omega
  rw [if_neg h5]
  by_cases h6 : k = 74
  · rw [if_pos h6]; simp [pos, h6]
  rw [if_neg h6]
  by_cases h7 : k = 75
  · rw [if_pos h7]; simp [pos, h7]
  rw [if_neg h7]
  have e1 : ¬ k - 75 = 0 := by omega
  simp only [pos]
  rw [if_neg (by omega), if_neg (by omega), if_neg (by omega), if_neg (by omega), if_neg (by omega), if_pos trivial, if_neg e1]; omega
theorem unp_kind (k : Nat) : (unp k).1 < 100 ∧ unp k ≠ (16, 0) := by
  unfold unp
  constructor
  · repeat' split
    all_goals (simp; try omega)
  · repeat' split
    all_goals (simp [Prod.ext_iff]; try omega)
/-- what is known of the launch: the base, where the constants lie, class numbers and slots, the numbers of the array classes -/
abbrev GG : Type := Nat × (Ad → Nat) × va_G × (Nat → ClassId)
def loc (G : GG) (a : Ad) : Nat := if a.1 < 100 ∧ a ≠ (16, 0) then G.1 + pos a else G.2.1 a
def rO (G : GG) (t : Nat) (o : Option Nat) : Value := va_rf (o.map fun i => loc G (t, i))
def vv (G : GG) : AV → Value
  | .inl x => .int x
  | .inr (.inl x) => .long x
  | .inr (.inr q) => rO G q.1 q.2
def A_ (G : GG) : Nat → Prop := fun q => G.1 ≤ q
/-- kinds: an object (its class's place in vwCl; its fields: 0 int, 1 boolean, 2 long, 100 + t a reference to kind t), or an array (0 int, 1 char, 2 long, 3 nodes, 4 objects; its length) -/
def shp (t : Nat) : (Nat × List Nat) ⊕ (Nat × Nat) := match t with
  | 0 => .inl (9, [101, 103, 107, 108, 110, 112, 114, 114, 1, 0, 105, 105, 1, 202, 0, 0])
  | 1 => .inl (3, [102, 0])
  | 2 => .inr (1, 32)
  | 3 => .inl (8, [104])
  | 4 => .inr (3, 24)
  | 5 => .inl (6, [106, 0, 1, 1, 2, 105])
  | 6 => .inr (0, 32)
  | 7 => .inl (0, [0, 116, 0])
  | 8 => .inl (7, [109, 0, 1, 1, 105, 105, 2])
  | 9 => .inr (2, 16)
  | 10 => .inl (5, [111, 0])
  | 11 => .inr (1, 168)
  | 12 => .inl (2, [113, 0, 0, 0, 105, 105, 2, 1])
  | 13 => .inr (0, 192)
  | 14 => .inl (4, [0, 2, 105])
  | 15 => .inl (1, [2, 2, 105])
  | 16 => .inr (4, 10)
  | 20 => .inl (10, [121, 122, 123, 124, 125, 0, 126, 127, 128, 0, 129, 0, 1, 0, 0, 130, 0, 0, 1, 2, 0, 0, 2, 0, 0, 0, 0, 0, 0, 0, 0, 131, 0, 1, 0, 2])
  | 21 => .inr (0, 24)
  | 22 => .inr (0, 24)
  | 23 => .inr (2, 24)
  | 24 => .inr (0, 24)
  | 25 => .inr (0, 768)
  | 26 => .inr (2, 4)
  | 27 => .inr (2, 4)
  | 28 => .inr (0, 4)
  | 29 => .inr (1, 32)
  | 30 => .inr (1, 200)
  | _ => .inr (0, 200)
def mkV (G : GG) (h : Hp) (a : Ad) (s : Nat) (ty : Nat) : Value := if ty < 2 then .int (gI h a s) else if ty = 2 then .long (gL h a s) else rO G (ty - 100) (gR h a s)
def mkF (G : GG) (h : Hp) (a : Ad) : List Nat → Nat → List Value
  | [], _ => []
  | ty :: r, s => mkV G h a s ty :: mkF G h a r (s + 1)
def mkA (G : GG) (h : Hp) (a : Ad) (k len : Nat) : vp_A := (len, if k < 2 then .inl (gI h a) else if k = 2 then .inr (.inl (gL h a)) else .inr (.inr (.inr (.inr fun j => (gR h a j).map fun i => loc G (if k = 3 then 5 else 15, i)))))
def cellE (G : GG) (h : Hp) (a : Ad) : va_E := match shp a.1 with
  | .inl q => .inr (q.1, mkF G h a q.2 0)
  | .inr q => .inl (G.2.2.2 q.1, mkA G h a q.1 q.2)
def wl (G : GG) (h : Hp) : va_W := (List.range (gn h)).map fun k => (G.1 + k, cellE G h (unp k))
def aTy (k : Nat) : FieldType := match k with
  | 0 => .int
  | 1 => .char
  | 2 => .long
  | 3 => .object "RootedFerry$Node"
  | _ => .object "java/lang/Object"
def tysL (G : GG) : List (ClassId × FieldType) := (List.range 5).map fun k => (G.2.2.2 k, aTy k)
/-- final references, by kind, number and slot -/
def FR (t i s : Nat) : Option Nat := match t, s with
  | 0, 0 => some 0
  | 0, 1 => some 0
  | 0, 2 => some 0
  | 0, 3 => some 0
  | 0, 4 => some 0
  | 0, 5 => some 0
  | 0, 6 => some 0
  | 0, 7 => some 1
  | 1, 0 => some 0
  | 3, 0 => some 0
  | 5, 0 => some i
  | 8, 0 => some 0
  | 10, 0 => some 0
  | 12, 0 => some 0
  | 20, 0 => some 0
  | 20, 1 => some 0
  | 20, 2 => some 0
  | 20, 3 => some 0
  | 20, 4 => some 0
  | 20, 6 => some 0
  | 20, 7 => some 0
  | 20, 8 => some 0
  | 20, 10 => some 0
  | 20, 15 => some 0
  | 20, 31 => some 0
  | _, _ => none
def Fok (h : Hp) : Prop := (∀ t i s j : Nat, unp (pos (t, i)) = (t, i) → pos (t, i) < 74 → FR t i s = some j → gR h (t, i) s = some j) ∧ ∀ i : Nat, i < 24 → gR h (4, 0) i = some i
def Fresh (h : Hp) : Prop := ∀ k : Nat, gn h ≤ k → ∀ s : Nat, gI h (unp k) s = 0 ∧ gL h (unp k) s = 0 ∧ gR h (unp k) s = none
def WR (ph : Bool) (G : GG) (h : Hp) (H : Heap) : Prop := H.size = G.1 + gn h ∧ va_P G.2.2.1 vwCl (wl G h) H ∧ Fresh h ∧ (ph = true → Fok h ∧ 74 ≤ gn h)
/-- a cell is there: by the count, or as all cells of the two made objects are -/
def lvq (ph : Bool) (h : Hp) (a : Ad) : Prop := unp (pos a) = a ∧ (pos a < gn h ∨ (ph = true ∧ pos a < 74))
theorem lvq_st {h : Hp} {a : Ad} (e : (decide (unp (pos a) = a) && decide (pos a < 74)) = true) : lvq true h a := by
  simp only [Bool.and_eq_true, decide_eq_true_eq] at e
  exact ⟨e.1, Or.inr ⟨rfl, e.2⟩⟩
theorem unp_nd {i : Nat} (hi : i < 24) : unp (pos (5, i)) = (5, i) ∧ pos (5, i) < 74 := by
  have e : pos (5, i) = 5 + 2 * i := by simp [pos]
  rw [e]
  refine ⟨?_, by omega⟩
  unfold unp
  rw [if_neg (by omega), if_pos (by omega)]
  exact Prod.ext (by show 5 + (5 + 2 * i - 5) % 2 = 5; omega) (by show (5 + 2 * i - 5) / 2 = i; omega)
theorem unp_nc {i : Nat} (hi : i < 24) : unp (pos (6, i)) = (6, i) ∧ pos (6, i) < 74 := by
  have e : pos (6, i) = 6 + 2 * i := by simp [pos]
  rw [e]
  refine ⟨?_, by omega⟩
  unfold unp
  rw [if_neg (by omega), if_pos (by omega)]
  exact Prod.ext (by show 5 + (6 + 2 * i - 5) % 2 = 6; omega) (by show (6 + 2 * i - 5) / 2 = i; omega)
theorem unp_me {i : Nat} (hi : i < 2) : unp (pos (14, i)) = (14, i) ∧ pos (14, i) < 74 := by
  rcases (show i = 0 ∨ i = 1 by omega) with rfl | rfl <;> decide
theorem lvq_nd {h : Hp} {i : Nat} (hi : i < 24) : lvq true h (5, i) := ⟨(unp_nd hi).1, Or.inr ⟨rfl, (unp_nd hi).2⟩⟩
theorem lvq_nc {h : Hp} {i : Nat} (hi : i < 24) : lvq true h (6, i) := ⟨(unp_nc hi).1, Or.inr ⟨rfl, (unp_nc hi).2⟩⟩
theorem lvq_me {h : Hp} {i : Nat} (hi : i < 2) : lvq true h (14, i) := ⟨(unp_me hi).1, Or.inr ⟨rfl, (unp_me hi).2⟩⟩
theorem lvq_lt {ph : Bool} {G : GG} {h : Hp} {H : Heap} {a : Ad} (hW : WR ph G h H) (hv : lvq ph h a) : pos a < gn h := by
  rcases hv.2 with q | ⟨q, q2⟩
  · exact q
  · exact Nat.lt_of_lt_of_le q2 (hW.2.2.2 q).2
theorem loc_live {G : GG} {a : Ad} (e : unp (pos a) = a) : loc G a = G.1 + pos a := by
  have k := unp_kind (pos a)
  rw [e] at k
  rw [loc, if_pos k]
theorem wl_len (G : GG) (h : Hp) : (wl G h).length = gn h := by simp [wl]
theorem wl_at {G : GG} {h : Hp} {k : Nat} (hk : k < gn h) : (wl G h)[k]? = some (G.1 + k, cellE G h (unp k)) := by
  simp [wl, hk]
theorem wl_cell {ph : Bool} {G : GG} {h : Hp} {H : Heap} {a : Ad} (hW : WR ph G h H) (hv : lvq ph h a) : (wl G h)[pos a]? = some (loc G a, cellE G h a) := by
  rw [wl_at (lvq_lt hW hv), hv.1, loc_live hv.1]
theorem wl_D (G : GG) (h : Hp) : va_D (A_ G) (wl G h) := by
  have key : ∀ (k : Nat) (q : Nat × va_E), (wl G h)[k]? = some q → q.1 = G.1 + k := by
    intro k q hq
    have hk : k < gn h := by
      have := (List.getElem?_eq_some_iff.mp hq).1
      rwa [wl_len] at this
    rw [wl_at hk] at hq
    cases hq
    rfl
  refine ⟨fun i j p q hi hj e => ?_, fun k q hq => ?_⟩
  · rw [key i p hi, key j q hj] at e; omega
  · show G.1 ≤ q.1; rw [key k q hq]; omega
/-- one cell is written: the world behind it -/
theorem wl_set {G : GG} {h h' : Hp} {a : Ad} (e : unp (pos a) = a) (hn : gn h' = gn h) (hc : ∀ b : Ad, b ≠ a → cellE G h' b = cellE G h b) : (wl G h).set (pos a) (loc G a, cellE G h' a) = wl G h' := by
  apply List.ext_getElem?
  intro k
  by_cases hk : k < gn h
  · by_cases hp : k = pos a
    · subst hp
      rw [List.getElem?_set_self (by rw [wl_len]; exact hk), wl_at (by rw [hn]; exact hk), e, loc_live e]
    · rw [List.getElem?_set_ne (Ne.symm hp), wl_at hk, wl_at (by rw [hn]; exact hk), hc]
      intro q
      exact hp (by rw [← q, pos_unp])
  · rw [List.getElem?_eq_none (by rw [List.length_set, wl_len]; omega), List.getElem?_eq_none (by rw [wl_len, hn]; omega)]
