/-! reading the tree -/
theorem nle {k n : Nat} (hk : k < 2 ^ 31) (hn : n < 2 ^ 31) : (nI n ≤ nI k) = (n ≤ k) := propext (nI_leI hn hk)
theorem nlt {k n : Nat} (hk : k < 2 ^ 31) (hn : n < 2 ^ 31) : (nI n < nI k) = (n < k) := propext (nI_ltI hn hk)
theorem neq {k n : Nat} (hk : k < 2 ^ 31) (hn : n < 2 ^ 31) : (nI n = nI k) = (n = k) := propext (nI_eq hn hk)
theorem c24 {k : Nat} (hk : k < 24) : ¬ (24 : Int32) ≤ nI k := by
  simp (disch := omega) only [Int32.le_iff_toInt_le, Int32.lt_iff_toInt_lt, ← Int32.toInt_inj, nI_toInt, Int32.reduceToInt]; omega
theorem rN_k {c m : Hp} {i : Nat} (h : rN c m i) : (gI c (5, i) 2 = 0) = (gI m (21, 0) i = 0) ∧ (gI m (21, 0) i ≤ 0) = (gI m (21, 0) i = 0) ∧ (gI m (21, 0) i = 0 ∨ gI m (21, 0) i = 1 ∨ gI m (21, 0) i = 2) := by
  rcases h with ⟨h1, h2, h3⟩ | ⟨h1, h2, h3⟩ | ⟨h1, h2, h3⟩
  · rw [h1, h2]; exact ⟨rfl, propext ⟨fun _ => rfl, fun _ => by decide⟩, Or.inl rfl⟩
  · rw [h1, h2]; exact ⟨rfl, propext ⟨fun z => absurd z (by decide), fun z => absurd z (by decide)⟩, Or.inr (Or.inl rfl)⟩
  · rw [h1, h2]
    exact ⟨propext ⟨fun z => absurd z (by decide), fun z => absurd z (by decide)⟩, propext ⟨fun z => absurd z (by decide), fun z => absurd z (by decide)⟩, Or.inr (Or.inr rfl)⟩
theorem rN_dir {c m : Hp} {i : Nat} (h : rN c m i) (hu : gI m (21, 0) i ≠ 0) : (gI c (5, i) 3 = 0) = (gI m (21, 0) i = 2) ∧ r01 (gI c (5, i) 3) := by
  rcases h with ⟨h1, h2, h3⟩ | ⟨h1, h2, h3, h4⟩ | ⟨h1, h2, h3, h4⟩
  · exact absurd h1 hu
  · rw [h1, h3]; exact ⟨propext ⟨fun z => absurd z (by decide), fun z => absurd z (by decide)⟩, Or.inr rfl⟩
  · rw [h1, h3]; exact ⟨propext ⟨fun _ => rfl, fun _ => rfl⟩, Or.inl rfl⟩
theorem rN_P {c m : Hp} {i : Nat} (h : rN c m i) (hu : gI m (21, 0) i ≠ 0) : rP c m i := by
  rcases h with ⟨h1, h2, h3⟩ | ⟨h1, h2, h3, h4, h5⟩ | ⟨h1, h2, h3, h4, h5⟩
  · exact absurd h1 hu
  · exact h5
  · exact h5
theorem nodes_eq {c m : Hp} (hn : rNs c m) : ∃ x, tree_countNodes c = some x ∧ m_nodes m = some x ∧ ∃ u, u ≤ 24 ∧ x = nI u ∧ (u = 24 ↔ ∀ j, j < 24 → gI m (21, 0) j ≠ 0) := by
  have e1 : iter (tree_countNodes_l13 c) FU ((0 : Int32), (0 : Int32)) = some (fo (fun k a => if gI m (21, 0) k = 0 then a else a + 1) 0 24, nI 24) := by
    refine iter_fold0 (n := 24) _ 0 (fun a => (a, nI 24)) (by decide) (fun k a hk => ?_) (fun a => ?_)
    · rw [tree_countNodes_l13, if_neg (c24 hk), gB hk (by decide), clI (by omega)]
      simp only [(rN_k (hn k hk)).1]
      by_cases z : gI m (21, 0) k = 0
      · rw [if_pos z, if_pos z, Option.bind_some, nI_1]
      · rw [if_neg z, if_neg z, Option.bind_some, nI_1]
    · rw [tree_countNodes_l13, if_pos (by decide)]
  have e2 : iter (m_nodes_l4 m) FU ((0 : Int32), (0 : Int32)) = some (fo (fun k a => if gI m (21, 0) k = 0 then a else a + 1) 0 24, nI 24) := by
    refine iter_fold0 (n := 24) _ 0 (fun a => (a, nI 24)) (by decide) (fun k a hk => ?_) (fun a => ?_)
    · rw [m_nodes_l4, if_neg (c24 hk), gB hk (by decide), clI (by omega)]
      simp only [(rN_k (hn k hk)).2.1]
      by_cases z : gI m (21, 0) k = 0
      · rw [if_pos z, if_pos z, Option.bind_some, nI_1]
      · rw [if_neg z, if_neg z, Option.bind_some, nI_1]
    · rw [m_nodes_l4, if_pos (by decide)]
  refine ⟨_, by rw [tree_countNodes, e1]; rfl, by rw [m_nodes, e2]; rfl, ?_⟩
  show ∃ u, u ≤ 24 ∧ fo (fun k a => if gI m (21, 0) k = 0 then a else a + 1) (0 : Int32) 24 = nI u ∧ (u = 24 ↔ ∀ j, j < 24 → gI m (21, 0) j ≠ 0)
  refine fo_ind (a := (0 : Int32)) (fun k x => ∃ u, u ≤ k ∧ x = nI u ∧ (u = k ↔ ∀ j, j < k → gI m (21, 0) j ≠ 0)) ⟨0, by omega, rfl, by simp⟩ 24 ?_
  rintro k x hk ⟨u, u1, rfl, u2⟩
  by_cases z : gI m (21, 0) k = 0
  · simp only [z, if_true]
    refine ⟨u, by omega, rfl, by omega, fun h => absurd z (h k (by omega))⟩
  · simp only [z, if_false]
    refine ⟨u + 1, by omega, nI_1 u, ?_⟩
    rw [show (u + 1 = k + 1) = (u = k) by simp, u2]
    constructor
    · intro h j hj
      by_cases e : j = k
      · rw [e]; exact z
      · exact h j (by omega)
    · exact fun h j hj => h j (by omega)
theorem op_nodes : Rd r_nodes m_nodes := by
  intro c m h
  obtain ⟨x, e1, e2, -⟩ := nodes_eq h.2.2.2.2.1
  exact ⟨x, by rw [r_nodes, e1]; rfl, e2⟩
theorem bytes_eq {c m : Hp} (hn : rNs c m) : ∃ x, tree_countBytes c = some x ∧ m_bytes m = some x := by
  have e1 : iter (tree_countBytes_l13 c) FU ((0 : Int32), (0 : Int32)) = some (fo (fun k a => if gI m (21, 0) k = 2 then a + gI m (24, 0) k else a) 0 24, nI 24) := by
    refine iter_fold0 (n := 24) _ 0 (fun a => (a, nI 24)) (by decide) (fun k a hk => ?_) (fun a => ?_)
    · rw [tree_countBytes_l13, if_neg (c24 hk), gB hk (by decide), clI (by omega)]
      rcases hn k hk with ⟨h1, h2, h3⟩ | ⟨h1, h2, h3, h4, h5⟩ | ⟨h1, h2, h3, ⟨z, h4, h5, h6, h7⟩, h8⟩
      · rw [h1, h2, if_pos rfl, if_neg (by decide), Option.bind_some, nI_1]
      · rw [h1, h2, h4, if_neg (by decide), if_neg (by decide), Option.bind_some, nI_1]
        rw [Int32.add_zero]
      · rw [h1, h2, h5, h6, if_neg (by decide), if_pos rfl, Option.bind_some, nI_1]
    · rw [tree_countBytes_l13, if_pos (by decide)]
  have e2 : iter (m_bytes_l4 m) FU ((0 : Int32), (0 : Int32)) = some (fo (fun k a => if gI m (21, 0) k = 2 then a + gI m (24, 0) k else a) 0 24, nI 24) := by
    refine iter_fold0 (n := 24) _ 0 (fun a => (a, nI 24)) (by decide) (fun k a hk => ?_) (fun a => ?_)
    · rw [m_bytes_l4, if_neg (c24 hk), gB hk (by decide), gB hk (by decide), clI (by omega)]
      by_cases z : gI m (21, 0) k = 2
      · rw [if_pos z, if_pos z, Option.bind_some, nI_1]
      · rw [if_neg z, if_neg z, Option.bind_some, nI_1]
    · rw [m_bytes_l4, if_pos (by decide)]
  exact ⟨_, by rw [tree_countBytes, e1]; rfl, by rw [m_bytes, e2]; rfl⟩
theorem op_bytes : Rd r_bytes m_bytes := by
  intro c m h
  obtain ⟨x, e1, e2⟩ := bytes_eq h.2.2.2.2.1
  exact ⟨x, by rw [r_bytes, e1]; rfl, e2⟩
/-- k is used and lies in i -/
def inD (m : Hp) (i k : Nat) : Prop := gI m (21, 0) k ≠ 0 ∧ gI m (22, 0) k = nI i ∧ k ≠ i
theorem inD_c {c m : Hp} {i k : Nat} (hi : i < 24) (hk : k < 24) (hn : rN c m k) : (gI c (5, k) 2 ≠ 0 ∧ gR c (5, k) 5 = some i) ↔ inD m i k := by
  unfold inD
  rw [ne_eq, (rN_k hn).1]
  constructor
  · rintro ⟨a, b⟩
    rcases rN_P hn a with ⟨h1, h2, h3⟩ | ⟨p, h1, h2, h3, h4, h5⟩
    · rw [h1] at b; cases b
    · rw [h3] at b
      cases b
      exact ⟨a, h4, h2.symm⟩
  · rintro ⟨a, b, d⟩
    refine ⟨a, ?_⟩
    rcases rN_P hn a with ⟨h1, h2, h3⟩ | ⟨p, h1, h2, h3, h4, h5⟩
    · rw [h2] at b
      exact absurd ((nI_eq (by omega) (by omega)).mp b) d
    · rw [h4] at b
      rw [h3, (nI_eq (by omega) (by omega)).mp b]

theorem on_lt {o : Option Nat} (h : ∀ k, o = some k → k < 24) : (on o < 0) = (o = none) := by
  cases o with
  | none => exact propext ⟨fun _ => rfl, fun _ => by decide⟩
  | some k =>
    have := h k rfl
    exact propext ⟨fun z => absurd z (nI_pos (by omega)), fun z => by cases z⟩
theorem on_ge {o : Option Nat} (h : ∀ k, o = some k → k < 24) : (0 ≤ on o) = (o ≠ none) := by
  cases o with
  | none => exact propext ⟨fun z => absurd z (by decide), fun z => absurd rfl z⟩
  | some k =>
    have := h k rfl
    exact propext ⟨fun _ z => (by cases z), fun _ => nI_pos' (by omega)⟩
theorem on_inj {o o' : Option Nat} (h : ∀ k, o = some k → k < 24) (h' : ∀ k, o' = some k → k < 24) : (on o = on o') = (o = o') := by
  apply propext
  constructor
  · intro e
    cases o with
    | none =>
      cases o' with
      | none => rfl
      | some k =>
        have := h' k rfl
        have e2 := (on_lt (o := none) (fun _ z => by cases z)).symm ▸ (rfl : (none : Option Nat) = none)
        rw [e] at e2
        exact absurd e2 (nI_pos (by omega))
    | some j =>
      have := h j rfl
      cases o' with
      | none =>
        have e2 := (on_lt (o := none) (fun _ z => by cases z)).symm ▸ (rfl : (none : Option Nat) = none)
        rw [← e] at e2
        exact absurd e2 (nI_pos (by omega))
      | some k =>
        have := h' k rfl
        exact congrArg some ((nI_eq (by omega) (by omega)).mp e)
  · exact fun e => by rw [e]
def chB (m : Hp) (i : Nat) (nm : Int64) (k : Nat) : Bool := decide (gI m (21, 0) k ≠ 0 ∧ gI m (22, 0) k = nI i ∧ k ≠ i ∧ gL m (23, 0) k = nm)
theorem chB_iff {m : Hp} {i k : Nat} {nm : Int64} : chB m i nm k = true ↔ inD m i k ∧ gL m (23, 0) k = nm := by
  unfold chB inD
  rw [decide_eq_true_eq]
  exact ⟨fun h => ⟨⟨h.1, h.2.1, h.2.2.1⟩, h.2.2.2⟩, fun h => ⟨h.1.1, h.1.2.1, h.1.2.2, h.2⟩⟩
theorem inD_nm {c m : Hp} {i k : Nat} (hk : k < 24) (hi : i < 24) (hn : rN c m k) (h : inD m i k) : gL c (5, k) 4 = gL m (23, 0) k ∧ wfN (gL m (23, 0) k) ∧ gI m (21, 0) i = 1 := by
  rcases rN_P hn h.1 with ⟨h1, h2, h3⟩ | ⟨p, h1, h2, h3, h4, h5, h6, h7⟩
  · have := h.2.1
    rw [h2] at this
    exact absurd ((nI_eq (by omega) (by omega)).mp this) h.2.2
  · have := h.2.1
    rw [h4] at this
    rw [← (nI_eq (by omega) (by omega)).mp this]
    exact ⟨h6, h7, h5⟩
theorem child_eq {c m : Hp} {i : Nat} {nm : Int64} (hn : rNs c m) (hi : i < 24) : tree_child (some i) nm c = some (ffi (chB m i nm) 24) ∧ m_child (nI i) nm m = some (on (ffi (chB m i nm) 24)) := by
  have e1 := iter_find0 (f := tree_child_l14 (some i) nm c) (n := 24) (chB m i nm) (fun k => .inl (some k)) (.inr (nI 24)) (by decide) (fun k hk => by
    rw [tree_child_l14, if_neg (c24 hk), gB hk (by decide), clI (by omega)]
    have ic := inD_c hi hk (hn k hk)
    by_cases q : inD m i k
    · obtain ⟨a, b⟩ := ic.mpr q
      rw [if_neg a, if_pos b, (inD_nm hk hi (hn k hk) q).1]
      by_cases e : gL m (23, 0) k = nm
      · rw [if_pos e, if_pos (chB_iff.mpr ⟨q, e⟩)]
      · rw [if_neg e, if_neg (fun z => e (chB_iff.mp z).2), nI_1]
    · rw [if_neg (c := chB m i nm k = true) (fun z => q (chB_iff.mp z).1), nI_1]
      by_cases a : gI c (5, k) 2 = 0
      · rw [if_pos a]
      · rw [if_neg a, if_neg (fun b => q (ic.mp ⟨a, b⟩))]) (by
    rw [tree_child_l14, if_pos (by decide)])
  have e2 := iter_find0 (f := m_child_l3 (nI i) nm m) (n := 24) (chB m i nm) (fun k => .inl (nI k)) (.inr (nI 24)) (by decide) (fun k hk => by
    rw [m_child_l3, if_neg (c24 hk), gB hk (by decide), gB hk (by decide), gB hk (by decide), clI (by omega)]
    have e3 : (nI k = nI i) = (k = i) := neq (by omega) (by omega)
    simp only [(rN_k (hn k hk)).2.1, e3]
    by_cases a : gI m (21, 0) k = 0
    · rw [if_pos a, if_neg (fun z => (chB_iff.mp z).1.1 a), nI_1]
    · rw [if_neg a]
      by_cases b : gI m (22, 0) k = nI i
      · rw [if_pos b]
        by_cases d : k = i
        · rw [if_pos d, if_neg (fun z => (chB_iff.mp z).1.2.2 d), nI_1]
        · rw [if_neg d]
          by_cases e : gL m (23, 0) k = nm
          · rw [if_pos e, if_pos (chB_iff.mpr ⟨⟨a, b, d⟩, e⟩)]
          · rw [if_neg e, if_neg (fun z => e (chB_iff.mp z).2), nI_1]
      · rw [if_neg b, if_neg (fun z => b (chB_iff.mp z).1.2.1), nI_1]) (by
    rw [m_child_l3, if_pos (by decide)])
  constructor
  · rw [tree_child, e1, Option.bind_some]
    cases ffi (chB m i nm) 24 <;> rfl
  · rw [m_child, e2, Option.bind_some]
    cases ffi (chB m i nm) 24 <;> rfl
def frB (m : Hp) (k : Nat) : Bool := decide (gI m (21, 0) k = 0)
theorem free_eq {c m : Hp} (hn : rNs c m) : m_freeNode m = some (nI ((ffi (frB m) 24).getD 24)) := by
  have e2 := iter_find0 (f := m_freeNode_l2 m) (n := 24) (frB m) (fun k => nI k) (nI 24) (by decide) (fun k hk => by
    rw [m_freeNode_l2, if_neg (c24 hk), gB hk (by decide), clI (by omega)]
    simp only [(rN_k (hn k hk)).2.1, frB, decide_eq_true_eq]
    by_cases a : gI m (21, 0) k = 0
    · rw [if_pos a, if_pos a]
    · rw [if_neg a, if_neg a, nI_1]) (by
    rw [m_freeNode_l2, if_pos (by decide)])
  rw [m_freeNode, e2, Option.bind_some]
  cases ffi (frB m) 24 <;> rfl
theorem add_eq {c m : Hp} {p : Option Nat} {nm : Int64} {dir : Int32} (hn : rNs c m) (hd : r01 dir) : tree_add p nm dir c = some (match ffi (frB m) 24 with
    | some k => (some k, sI (sL (sR (sI c (5, k) 2 1) (5, k) 5 p) (5, k) 4 nm) (5, k) 3 dir)
    | none => (none, c)) := by
  have gz : ∀ {A : Type} (o : Option A), guardZ dir o = o := fun o => by
    rcases hd with rfl | rfl <;> rfl
  have e1 := iter_find0 (f := tree_add_l14 p nm dir c) (n := 24) (frB m) (fun k => .inl (some k, sI (sL (sR (sI c (5, k) 2 1) (5, k) 5 p) (5, k) 4 nm) (5, k) 3 dir)) (.inr (nI 24)) (by decide) (fun k hk => by
    rw [tree_add_l14, if_neg (c24 hk), gB hk (by decide), clI (by omega), gz]
    simp only [(rN_k (hn k hk)).1, frB, decide_eq_true_eq]
    by_cases a : gI m (21, 0) k = 0
    · rw [if_pos a, if_pos a]
    · rw [if_neg a, if_neg a, nI_1]) (by
    rw [tree_add_l14, if_pos (by decide)])
  rw [tree_add, e1, Option.bind_some]
  cases ffi (frB m) 24 <;> rfl
theorem fr_some {m : Hp} {k : Nat} (h : ffi (frB m) 24 = some k) : k < 24 ∧ gI m (21, 0) k = 0 := by
  obtain ⟨a, b, -⟩ := ffi_some h
  exact ⟨a, by simpa [frB] using b⟩
theorem fr_none {m : Hp} (h : ffi (frB m) 24 = none) : ∀ k, k < 24 → gI m (21, 0) k ≠ 0 := fun k hk => by
  have := ffi_none h k hk
  simpa [frB] using this
theorem full_eq {c m : Hp} (hn : rNs c m) : tree_isFull c = some (if ffi (frB m) 24 = none then 1 else 0) := by
  obtain ⟨x, e, -, u, u1, rfl, u2⟩ := nodes_eq hn
  have e1 : (nI u < (24 : Int32)) = (u < 24) := by
    simp (disch := omega) only [Int32.le_iff_toInt_le, Int32.lt_iff_toInt_lt, ← Int32.toInt_inj, nI_toInt, Int32.reduceToInt]; exact propext (by omega)
  rw [tree_isFull, e, Option.bind_some]
  simp only [e1]
  cases q : ffi (frB m) 24 with
  | none =>
    rw [if_neg (by have := u2.mpr (fr_none q); omega), if_pos rfl]; rfl
  | some k =>
    have := fr_some q
    rw [if_pos (by
      by_cases z : u = 24
      · exact absurd this.2 (u2.mp z k this.1)
      · omega), if_neg (by simp)]; rfl
