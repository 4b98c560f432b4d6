/-! what the made functions are written with -/
def FU : Nat := 1000
def iter {S X : Type} (body : S → Option (X ⊕ S)) : Nat → S → Option X
  | 0, _ => none
  | n + 1, s => match body s with
    | none => none
    | some (.inl x) => some x
    | some (.inr s') => iter body n s'
theorem iter_V {S X : Type} {body : S → Option (X ⊕ S)} {P : S → Prop} {t : X} (hs : ∀ (s : S) (o : X ⊕ S), body s = some o → (∀ x, o = .inl x → x = t) → (∀ s', o = .inr s' → P s') → P s) : ∀ (n : Nat) (s : S), iter body n s = some t → P s
  | 0, s, h => by cases h
  | n + 1, s, h => by
    rw [iter] at h
    cases hb : body s with
    | none => rw [hb] at h; cases h
    | some o =>
      rw [hb] at h
      cases o with
      | inl x => exact hs s _ hb (fun x' e => by cases e; exact Option.some.inj h) (fun s' e => by cases e)
      | inr s' => exact hs s _ hb (fun x' e => by cases e) (fun s2 e => by cases e; exact iter_V hs n s' h)
theorem bind_some {α β : Type} {o : Option α} {f : α → Option β} {r : β} (h : o.bind f = some r) : ∃ a, o = some a ∧ f a = some r := by
  cases o with
  | none => cases h
  | some a => exact ⟨a, rfl, h⟩
def nd (n : Nat) (o : Option Nat) : Option Nat := o.bind fun i => if i < n then some i else none
theorem nd_some {n : Nat} {o : Option Nat} {i : Nat} (h : nd n o = some i) : o = some i ∧ i < n := by
  obtain ⟨j, rfl, h2⟩ := bind_some h
  by_cases q : j < n
  · rw [if_pos q] at h2; cases h2; exact ⟨rfl, q⟩
  · rw [if_neg q] at h2; cases h2
def guardB {α : Type} (i : Int32) (n : Nat) (o : Option α) : Option α := if inB i n = true then o else none
theorem guardB_some {α : Type} {i : Int32} {n : Nat} {o : Option α} {r : α} (h : guardB i n o = some r) : inB i n = true ∧ o = some r := by
  unfold guardB at h
  by_cases q : inB i n = true
  · rw [if_pos q] at h; exact ⟨q, h⟩
  · rw [if_neg q] at h; cases h
def guardZ {α : Type} (x : Int32) (o : Option α) : Option α := if x = 0 ∨ x = 1 then o else none
theorem guardZ_some {α : Type} {x : Int32} {o : Option α} {r : α} (h : guardZ x o = some r) : (x = 0 ∨ x = 1) ∧ o = some r := by
  unfold guardZ at h
  by_cases q : x = 0 ∨ x = 1
  · rw [if_pos q] at h; exact ⟨q, h⟩
  · rw [if_neg q] at h; cases h
def guardC {α : Type} (x : Int32) (o : Option α) : Option α := if x.toUInt32.toUInt16.toUInt32.toInt32 = x then o else none
theorem guardC_some {α : Type} {x : Int32} {o : Option α} {r : α} (h : guardC x o = some r) : x.toUInt32.toUInt16.toUInt32.toInt32 = x ∧ o = some r := by
  unfold guardC at h
  by_cases q : x.toUInt32.toUInt16.toUInt32.toInt32 = x
  · rw [if_pos q] at h; exact ⟨q, h⟩
  · rw [if_neg q] at h; cases h
def wB (o : Option Nat) : Bool := match o with
  | none => true
  | some i => decide (i < 4)
def guardW {α : Type} (x : Option Nat) (o : Option α) : Option α := if wB x = true then o else none
theorem guardW_some {α : Type} {x : Option Nat} {o : Option α} {r : α} (h : guardW x o = some r) : (∀ i, x = some i → i < 4) ∧ o = some r := by
  unfold guardW at h
  by_cases q : wB x = true
  · rw [if_pos q] at h
    exact ⟨fun i e => by rw [e] at q; simpa [wB] using q, h⟩
  · rw [if_neg q] at h; cases h
theorem inB_lt {i : Int32} {n : Nat} (h : inB i n = true) : i.toNatClampNeg < n := by
  simp only [inB, Bool.and_eq_true, decide_eq_true_eq] at h
  exact h.2
theorem lgc_eq {x y : Int64} : lg_cmp x y = 0 ↔ x = y := by
  unfold lg_cmp
  by_cases h1 : y < x
  · simp [h1]
    intro e
    subst e
    exact absurd h1 (by simp)
  · by_cases h2 : x = y
    · simp [h2]
    · simp [h1, h2]
theorem V.st {ph : Bool} {G : GG} {p : Program} {l : Launch} {e : Env} {R : Room} {s : State} {m : MethodId} {args : Array Value} {below : List Frame} {meth : Method} {c : Code} {nL : Nat} {Q : State → Prop} {h : Hp} {cells slots pc : Nat} {ls : List (Option AV)} {st st' : List AV} (e1 : st = st') (k : V ph G p l e R s m args below meth c nL Q h cells slots pc ls st') : V ph G p l e R s m args below meth c nL Q h cells slots pc ls st := by
  rw [e1]; exact k
def mskL : List Bool → List (Option AV) → List (Option AV)
  | true :: bs, x :: r => x :: mskL bs r
  | false :: bs, _ :: r => none :: mskL bs r
  | [], r => r
  | _, [] => []
theorem mskL_at : ∀ (bs : List Bool) (ls : List (Option AV)) (j : Nat) (x : AV), (mskL bs ls)[j]? = some (some x) → ls[j]? = some (some x)
  | [], ls, j, x, h => by simpa [mskL] using h
  | b :: bs, [], j, x, h => by cases b <;> simp [mskL] at h
  | true :: bs, y :: r, 0, x, h => by simpa [mskL] using h
  | false :: bs, y :: r, 0, x, h => by simp [mskL] at h
  | true :: bs, y :: r, j + 1, x, h => by
    rw [mskL, List.getElem?_cons_succ] at h
    rw [List.getElem?_cons_succ]
    exact mskL_at bs r j x h
  | false :: bs, y :: r, j + 1, x, h => by
    rw [mskL, List.getElem?_cons_succ] at h
    rw [List.getElem?_cons_succ]
    exact mskL_at bs r j x h
theorem V.ls {ph : Bool} {G : GG} {p : Program} {l : Launch} {e : Env} {R : Room} {s : State} {m : MethodId} {args : Array Value} {below : List Frame} {meth : Method} {c : Code} {nL : Nat} {Q : State → Prop} {h : Hp} {cells slots pc : Nat} {ls ls' : List (Option AV)} {st : List AV} {ms : List Bool} (e1 : mskL ms ls = ls') (k : V ph G p l e R s m args below meth c nL Q h cells slots pc ls' st) : V ph G p l e R s m args below meth c nL Q h cells slots pc ls st := by
  subst e1
  exact fun H locs LS a b d => k H locs LS a b ⟨d.1, d.2.1, fun j x hx => d.2.2 j x (mskL_at ms ls j x hx)⟩
theorem tab_out {x : Int32} {lo : Int} {n : Nat} (h : ∀ k : Nat, k < n → ¬ x = Int32.ofInt (lo + k)) {hi : Int} (e : lo + n - 1 = hi := by decide) : x.toInt < lo ∨ hi < x.toInt := by
  by_cases h1 : x.toInt < lo
  · exact Or.inl h1
  · by_cases h2 : hi < x.toInt
    · exact Or.inr h2
    · exfalso
      refine h (x.toInt - lo).toNat (by omega) ?_
      rw [show lo + ((x.toInt - lo).toNat : Int) = x.toInt by omega]
      exact (Int32.ofInt_toInt x).symm
theorem u0_0 : unp (pos (0, 0)) = (0, 0) ∧ pos (0, 0) < 74 := by decide +kernel
theorem lv0_0 {h : Hp} : lvq true h (0, 0) := ⟨u0_0.1, Or.inr ⟨rfl, u0_0.2⟩⟩
theorem u0_1 : unp (pos (1, 0)) = (1, 0) ∧ pos (1, 0) < 74 := by decide +kernel
theorem lv0_1 {h : Hp} : lvq true h (1, 0) := ⟨u0_1.1, Or.inr ⟨rfl, u0_1.2⟩⟩
theorem u0_2 : unp (pos (2, 0)) = (2, 0) ∧ pos (2, 0) < 74 := by decide +kernel
theorem lv0_2 {h : Hp} : lvq true h (2, 0) := ⟨u0_2.1, Or.inr ⟨rfl, u0_2.2⟩⟩
theorem u0_3 : unp (pos (3, 0)) = (3, 0) ∧ pos (3, 0) < 74 := by decide +kernel
theorem lv0_3 {h : Hp} : lvq true h (3, 0) := ⟨u0_3.1, Or.inr ⟨rfl, u0_3.2⟩⟩
theorem u0_4 : unp (pos (4, 0)) = (4, 0) ∧ pos (4, 0) < 74 := by decide +kernel
theorem lv0_4 {h : Hp} : lvq true h (4, 0) := ⟨u0_4.1, Or.inr ⟨rfl, u0_4.2⟩⟩
theorem u0_7 : unp (pos (7, 0)) = (7, 0) ∧ pos (7, 0) < 74 := by decide +kernel
theorem lv0_7 {h : Hp} : lvq true h (7, 0) := ⟨u0_7.1, Or.inr ⟨rfl, u0_7.2⟩⟩
theorem u0_8 : unp (pos (8, 0)) = (8, 0) ∧ pos (8, 0) < 74 := by decide +kernel
theorem lv0_8 {h : Hp} : lvq true h (8, 0) := ⟨u0_8.1, Or.inr ⟨rfl, u0_8.2⟩⟩
theorem u0_9 : unp (pos (9, 0)) = (9, 0) ∧ pos (9, 0) < 74 := by decide +kernel
theorem lv0_9 {h : Hp} : lvq true h (9, 0) := ⟨u0_9.1, Or.inr ⟨rfl, u0_9.2⟩⟩
theorem u0_10 : unp (pos (10, 0)) = (10, 0) ∧ pos (10, 0) < 74 := by decide +kernel
theorem lv0_10 {h : Hp} : lvq true h (10, 0) := ⟨u0_10.1, Or.inr ⟨rfl, u0_10.2⟩⟩
theorem u0_11 : unp (pos (11, 0)) = (11, 0) ∧ pos (11, 0) < 74 := by decide +kernel
theorem lv0_11 {h : Hp} : lvq true h (11, 0) := ⟨u0_11.1, Or.inr ⟨rfl, u0_11.2⟩⟩
theorem u0_12 : unp (pos (12, 0)) = (12, 0) ∧ pos (12, 0) < 74 := by decide +kernel
theorem lv0_12 {h : Hp} : lvq true h (12, 0) := ⟨u0_12.1, Or.inr ⟨rfl, u0_12.2⟩⟩
theorem u0_13 : unp (pos (13, 0)) = (13, 0) ∧ pos (13, 0) < 74 := by decide +kernel
theorem lv0_13 {h : Hp} : lvq true h (13, 0) := ⟨u0_13.1, Or.inr ⟨rfl, u0_13.2⟩⟩
theorem u0_20 : unp (pos (20, 0)) = (20, 0) ∧ pos (20, 0) < 74 := by decide +kernel
theorem lv0_20 {h : Hp} : lvq true h (20, 0) := ⟨u0_20.1, Or.inr ⟨rfl, u0_20.2⟩⟩
theorem u0_21 : unp (pos (21, 0)) = (21, 0) ∧ pos (21, 0) < 74 := by decide +kernel
theorem lv0_21 {h : Hp} : lvq true h (21, 0) := ⟨u0_21.1, Or.inr ⟨rfl, u0_21.2⟩⟩
theorem u0_22 : unp (pos (22, 0)) = (22, 0) ∧ pos (22, 0) < 74 := by decide +kernel
theorem lv0_22 {h : Hp} : lvq true h (22, 0) := ⟨u0_22.1, Or.inr ⟨rfl, u0_22.2⟩⟩
theorem u0_23 : unp (pos (23, 0)) = (23, 0) ∧ pos (23, 0) < 74 := by decide +kernel
theorem lv0_23 {h : Hp} : lvq true h (23, 0) := ⟨u0_23.1, Or.inr ⟨rfl, u0_23.2⟩⟩
theorem u0_24 : unp (pos (24, 0)) = (24, 0) ∧ pos (24, 0) < 74 := by decide +kernel
theorem lv0_24 {h : Hp} : lvq true h (24, 0) := ⟨u0_24.1, Or.inr ⟨rfl, u0_24.2⟩⟩
theorem u0_25 : unp (pos (25, 0)) = (25, 0) ∧ pos (25, 0) < 74 := by decide +kernel
theorem lv0_25 {h : Hp} : lvq true h (25, 0) := ⟨u0_25.1, Or.inr ⟨rfl, u0_25.2⟩⟩
theorem u0_26 : unp (pos (26, 0)) = (26, 0) ∧ pos (26, 0) < 74 := by decide +kernel
theorem lv0_26 {h : Hp} : lvq true h (26, 0) := ⟨u0_26.1, Or.inr ⟨rfl, u0_26.2⟩⟩
theorem u0_27 : unp (pos (27, 0)) = (27, 0) ∧ pos (27, 0) < 74 := by decide +kernel
theorem lv0_27 {h : Hp} : lvq true h (27, 0) := ⟨u0_27.1, Or.inr ⟨rfl, u0_27.2⟩⟩
theorem u0_28 : unp (pos (28, 0)) = (28, 0) ∧ pos (28, 0) < 74 := by decide +kernel
theorem lv0_28 {h : Hp} : lvq true h (28, 0) := ⟨u0_28.1, Or.inr ⟨rfl, u0_28.2⟩⟩
theorem u0_29 : unp (pos (29, 0)) = (29, 0) ∧ pos (29, 0) < 74 := by decide +kernel
theorem lv0_29 {h : Hp} : lvq true h (29, 0) := ⟨u0_29.1, Or.inr ⟨rfl, u0_29.2⟩⟩
theorem u0_30 : unp (pos (30, 0)) = (30, 0) ∧ pos (30, 0) < 74 := by decide +kernel
theorem lv0_30 {h : Hp} : lvq true h (30, 0) := ⟨u0_30.1, Or.inr ⟨rfl, u0_30.2⟩⟩
theorem u0_31 : unp (pos (31, 0)) = (31, 0) ∧ pos (31, 0) < 74 := by decide +kernel
theorem lv0_31 {h : Hp} : lvq true h (31, 0) := ⟨u0_31.1, Or.inr ⟨rfl, u0_31.2⟩⟩
