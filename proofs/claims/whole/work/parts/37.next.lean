/-! the next name in a directory, and whether it is empty -/
def nn (m : Hp) (j : Nat) : Nat := (gL m (23, 0) j).toBitVec.toNat
theorem wf_nn {m : Hp} {j : Nat} (h : wfN (gL m (23, 0) j)) : gL m (23, 0) j = lN (nn m j) ∧ 0 < nn m j ∧ nn m j < 2 ^ 48 := by
  obtain ⟨b, n, h1, h2, h3, h4⟩ := h
  have hlt := nmv_lt (b := b) (n := n) h2 (fun j hj => by have := sg_ne (okn_iff.mp h3 j hj); omega)
  have e : nn m j = nmv b n := by
    unfold nn
    rw [h4, wb_tn (by omega)]
  rw [e]
  exact ⟨h4, nmv_pos h1 h3, hlt⟩
def isNext (m : Hp) (i V k x : Nat) : Prop := (x = 0 ∧ ∀ j, j < k → inD m i j → nn m j ≤ V) ∨ ∃ j, j < k ∧ inD m i j ∧ nn m j = x ∧ V < x ∧ ∀ j', j' < k → inD m i j' → V < nn m j' → x ≤ nn m j'
theorem isNext_u {m : Hp} {i V k x y : Nat} (h : isNext m i V k x) (h' : isNext m i V k y) : x = y := by
  rcases h with ⟨h1, h2⟩ | ⟨j, j1, j2, j3, j4, j5⟩
  · rcases h' with ⟨g1, g2⟩ | ⟨q, q1, q2, q3, q4, q5⟩
    · omega
    · have := h2 q q1 q2; omega
  · rcases h' with ⟨g1, g2⟩ | ⟨q, q1, q2, q3, q4, q5⟩
    · have := g2 j j1 j2; omega
    · have := j5 q q1 q2 (by omega)
      have := q5 j j1 j2 (by omega)
      omega
theorem isNext_skip {m : Hp} {i V k x : Nat} (h : isNext m i V k x) (hs : ¬ inD m i k ∨ nn m k ≤ V) : isNext m i V (k + 1) x := by
  rcases h with ⟨h1, h2⟩ | ⟨j, j1, j2, j3, j4, j5⟩
  · refine Or.inl ⟨h1, fun j hj hd => ?_⟩
    by_cases e : j = k
    · subst e
      rcases hs with z | z
      · exact absurd hd z
      · exact z
    · exact h2 j (by omega) hd
  · refine Or.inr ⟨j, by omega, j2, j3, j4, fun q hq hd hv => ?_⟩
    by_cases e : q = k
    · subst e
      rcases hs with z | z
      · exact absurd hd z
      · omega
    · exact j5 q (by omega) hd hv
theorem isNext_keep {m : Hp} {i V k x : Nat} (h : isNext m i V k x) (hx : x ≠ 0) (hle : x ≤ nn m k) : isNext m i V (k + 1) x := by
  rcases h with ⟨h1, h2⟩ | ⟨j, j1, j2, j3, j4, j5⟩
  · exact absurd h1 hx
  · refine Or.inr ⟨j, by omega, j2, j3, j4, fun q hq hd hv => ?_⟩
    by_cases e : q = k
    · rw [e]; exact hle
    · exact j5 q (by omega) hd hv
theorem isNext_new {m : Hp} {i V k x : Nat} (h : isNext m i V k x) (hd : inD m i k) (hv : V < nn m k) (hx : x = 0 ∨ nn m k ≤ x) : isNext m i V (k + 1) (nn m k) := by
  refine Or.inr ⟨k, by omega, hd, rfl, hv, fun q hq hdq hvq => ?_⟩
  by_cases e : q = k
  · rw [e]; exact Nat.le_refl _
  · rcases h with ⟨h1, h2⟩ | ⟨j, j1, j2, j3, j4, j5⟩
    · have := h2 q (by omega) hdq; omega
    · have := j5 q (by omega) hdq hvq
      omega
theorem lle {a b : Nat} (ha : a < 2 ^ 63) (hb : b < 2 ^ 63) : (lN a ≤ lN b) = (a ≤ b) := propext (pk_lLE ha hb)
theorem next_c {c m : Hp} {i V : Nat} (hn : rNs c m) (hi : i < 24) (hV : V < 2 ^ 48) : ∃ x, x < 2 ^ 48 ∧ isNext m i V 24 x ∧ tree_nextName (some i) (lN V) c = some (lN x) := by
  have key : ∃ r, iter (tree_nextName_l17 (some i) (lN V) c) FU ((0 : Int64), (0 : Int32)) = some r ∧ ∃ x, r.1 = lN x ∧ x < 2 ^ 48 ∧ isNext m i V 24 x := by
    refine iterN (P := fun w st => ∃ k x, st = (lN x, nI k) ∧ k + w = 24 ∧ x < 2 ^ 48 ∧ isNext m i V k x) ?_ FU 24 _ ⟨0, 0, rfl, by omega, by decide, Or.inl ⟨rfl, fun j hj => by omega⟩⟩ (by decide)
    rintro w st ⟨k, x, rfl, h1, h2, h3⟩
    rw [tree_nextName_l17]
    by_cases g : k = 24
    · left
      subst g
      rw [if_pos (by decide)]
      exact ⟨_, rfl, x, rfl, h2, h3⟩
    · right
      have hk : k < 24 := by omega
      have ic := inD_c hi hk (hn k hk)
      rw [if_neg (c24 hk), gB hk (by decide), clI (by omega), nI_1]
      by_cases q : inD m i k
      · obtain ⟨a, b⟩ := ic.mpr q
        obtain ⟨n1, n2, n3⟩ := inD_nm hk hi (hn k hk) q
        obtain ⟨w1, w2, w3⟩ := wf_nn n2
        have e1 : (lN x = (0 : Int64)) = (x = 0) := propext (lN_inj (b := 0) (by omega) (by decide))
        rw [if_neg a, if_pos b, n1, w1]
        simp only [lle (show nn m k < 2 ^ 63 by omega) (show V < 2 ^ 63 by omega), lle (show x < 2 ^ 63 by omega) (show nn m k < 2 ^ 63 by omega), e1]
        by_cases d : nn m k ≤ V
        · rw [if_pos d]
          exact ⟨_, w - 1, by omega, rfl, k + 1, x, rfl, by omega, h2, isNext_skip h3 (Or.inr d)⟩
        · rw [if_neg d]
          by_cases f : x = 0
          · rw [if_pos f]
            exact ⟨_, w - 1, by omega, rfl, k + 1, nn m k, rfl, by omega, w3, isNext_new h3 q (by omega) (Or.inl f)⟩
          · rw [if_neg f]
            by_cases l : x ≤ nn m k
            · rw [if_pos l]
              exact ⟨_, w - 1, by omega, rfl, k + 1, x, rfl, by omega, h2, isNext_keep h3 f l⟩
            · rw [if_neg l]
              exact ⟨_, w - 1, by omega, rfl, k + 1, nn m k, rfl, by omega, w3, isNext_new h3 q (by omega) (Or.inr (by omega))⟩
      · have ev : ∀ z : Option Int64, (if gI c (5, k) 2 = 0 then some (lN x) else if gR c (5, k) 5 = some i then z else some (lN x)) = some (lN x) := fun z => by
          by_cases a : gI c (5, k) 2 = 0
          · rw [if_pos a]
          · rw [if_neg a, if_neg (fun b => q (ic.mp ⟨a, b⟩))]
        rw [ev]
        exact ⟨_, w - 1, by omega, rfl, k + 1, x, rfl, by omega, h2, isNext_skip h3 (Or.inl q)⟩
  obtain ⟨r, e, x, e1, e2, e3⟩ := key
  exact ⟨x, e2, e3, by rw [tree_nextName, e, Option.bind_some, e1]⟩
theorem empty_c {c m : Hp} {i : Nat} (hn : rNs c m) (hi : i < 24) : ∃ t, tree_isEmpty (some i) c = some t ∧ ((t = 1 ∧ ∀ j, j < 24 → ¬ inD m i j) ∨ (t = 0 ∧ ∃ j, j < 24 ∧ inD m i j)) := by
  obtain ⟨x, x1, x2, x3⟩ := next_c hn hi (V := 0) (by decide)
  have e1 : (lN x = (0 : Int64)) = (x = 0) := propext (lN_inj (b := 0) (by omega) (by decide))
  rw [tree_isEmpty, show (0 : Int64) = lN 0 from rfl, x3, Option.bind_some]
  simp only [show lN 0 = (0 : Int64) from rfl, e1]
  rcases x2 with ⟨h1, h2⟩ | ⟨j, j1, j2, j3, j4, j5⟩
  · rw [if_pos h1]
    refine ⟨1, rfl, Or.inl ⟨rfl, fun j hj hd => ?_⟩⟩
    have := h2 j hj hd
    have := (wf_nn (inD_nm hj hi (hn j hj) hd).2.1).2.1
    omega
  · rw [if_neg (by omega)]
    exact ⟨0, rfl, Or.inr ⟨rfl, j, j1, j2⟩⟩
theorem empty_m {c m : Hp} {i : Nat} (hn : rNs c m) (hi : i < 24) : ∃ t, m_isEmpty (nI i) m = some t ∧ ((t = 1 ∧ ∀ j, j < 24 → ¬ inD m i j) ∨ (t = 0 ∧ ∃ j, j < 24 ∧ inD m i j)) := by
  have key : ∃ r, iter (m_isEmpty_l4 (nI i) m) FU ((1 : Int32), (0 : Int32)) = some r ∧ ((r.1 = 1 ∧ ∀ j, j < 24 → ¬ inD m i j) ∨ (r.1 = 0 ∧ ∃ j, j < 24 ∧ inD m i j)) := by
    refine iterN (P := fun w st => ∃ k t, st = (t, nI k) ∧ k + w = 24 ∧ ((t = 1 ∧ ∀ j, j < k → ¬ inD m i j) ∨ (t = 0 ∧ ∃ j, j < 24 ∧ inD m i j))) ?_ FU 24 _ ⟨0, 1, rfl, by omega, Or.inl ⟨rfl, fun j hj => by omega⟩⟩ (by decide)
    rintro w st ⟨k, t, rfl, h1, h2⟩
    rw [m_isEmpty_l4]
    by_cases g : k = 24
    · left
      subst g
      rw [if_pos (by decide)]
      exact ⟨_, rfl, h2⟩
    · right
      have hk : k < 24 := by omega
      rw [if_neg (c24 hk), gB hk (by decide), gB hk (by decide), clI (by omega), nI_1]
      rcases h2 with ⟨rfl, h3⟩ | ⟨rfl, h3⟩
      · rw [if_neg (by decide)]
        have e3 : (nI k = nI i) = (k = i) := neq (by omega) (by omega)
        simp only [e3]
        have ex : ∀ j, ¬ inD m i k → j < k + 1 → ¬ inD m i j := fun j a b => by
          by_cases e : j = k
          · rw [e]; exact a
          · exact h3 j (by omega)
        by_cases a : gI m (21, 0) k = 0
        · rw [if_pos a]
          exact ⟨_, w - 1, by omega, rfl, k + 1, 1, rfl, by omega, Or.inl ⟨rfl, fun j => ex j (fun z => z.1 a)⟩⟩
        · rw [if_neg a]
          by_cases b : k = i
          · rw [if_pos b]
            exact ⟨_, w - 1, by omega, rfl, k + 1, 1, rfl, by omega, Or.inl ⟨rfl, fun j => ex j (fun z => z.2.2 b)⟩⟩
          · rw [if_neg b]
            by_cases d : gI m (22, 0) k = nI i
            · rw [if_pos d]
              exact ⟨_, w - 1, by omega, rfl, k + 1, 0, rfl, by omega, Or.inr ⟨rfl, k, hk, a, d, b⟩⟩
            · rw [if_neg d]
              exact ⟨_, w - 1, by omega, rfl, k + 1, 1, rfl, by omega, Or.inl ⟨rfl, fun j => ex j (fun z => d z.2.1)⟩⟩
      · rw [if_pos rfl]
        exact ⟨_, w - 1, by omega, rfl, k + 1, 0, rfl, by omega, Or.inr ⟨rfl, h3⟩⟩
  obtain ⟨r, e, h⟩ := key
  refine ⟨r.1, ?_, h⟩
  rw [m_isEmpty, e, Option.bind_some]
  rcases h with ⟨h, -⟩ | ⟨h, -⟩ <;> rw [h] <;> rfl
