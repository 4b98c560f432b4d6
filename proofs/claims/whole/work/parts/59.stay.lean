/-! end: what stays of what came -/
theorem cadd_raw {c : Hp} {p : Nat} {x : Int32} (h : gI c (12, 0) 2 = nI p) (hp : p < 192) : cargo_add x c = some (sI (sI c (13, 0) p x) (12, 0) 2 (nI (p + 1))) := by
  have g1 : ∀ v, gI (sI c (13, 0) p v) (12, 0) 2 = gI c (12, 0) 2 := fun _ => rfl
  unfold cargo_add
  rw [h, if_neg (by rw [show (192 : Int32) = nI 192 from rfl, nle (by omega) (by decide)]; omega), gB hp (by decide), clI (by omega), g1, h, nI_1, Option.bind_some]
theorem g13 (c : Hp) (p j : Nat) (x w : Int32) : gI (sI (sI c (13, 0) p x) (12, 0) 2 w) (13, 0) j = if j = p then x else gI c (13, 0) j := by
  show (if (13, 0) = ((13, 0) : Ad) ∧ j = p then x else gI c (13, 0) j) = _
  by_cases e : j = p
  · rw [if_pos ⟨rfl, e⟩, if_pos e]
  · rw [if_neg (fun z => e z.2), if_neg e]
theorem g31 (m : Hp) (p j : Nat) (x : Int32) : gI (sI m (31, 0) p x) (31, 0) j = if j = p then x else gI m (31, 0) j := by
  show (if (31, 0) = ((31, 0) : Ad) ∧ j = p then x else gI m (31, 0) j) = _
  by_cases e : j = p
  · rw [if_pos ⟨rfl, e⟩, if_pos e]
  · rw [if_neg (fun z => e z.2), if_neg e]
theorem stay_ascii {c m : Hp} {len : Nat} (hl : len ≤ 80) (hc : gI c (12, 0) 2 = nI len) (hm : gI m (20, 0) 30 = nI len) (hi : gI m (20, 0) 18 = 0) (hd : ∀ j, j < len → gI c (13, 0) j = gI m (31, 0) j ∧ isB (gI m (31, 0) j)) : ∃ c' m' p, cargo_leaveOutReturns c = some c' ∧ m_staying m = some (nI p, m') ∧ p ≤ len ∧ gI c' (12, 0) 2 = nI p ∧ npC c' = npC c ∧ npL m' = npL m ∧ ∀ j, j < p → gI c' (13, 0) j = gI m' (31, 0) j ∧ isB (gI m' (31, 0) j) := by
  have key : ∃ x y, iter (cargo_leaveOutReturns_l12 (nI len)) FU ((0 : Int32), sI c (12, 0) 2 (0 : Int32)) = some x ∧ iter m_staying_l4 FU ((0 : Int32), (0 : Int32), m) = some y ∧ ∃ p, y.1 = nI p ∧ p ≤ len ∧ gI x.2 (12, 0) 2 = nI p ∧ npC x.2 = npC c ∧ npL y.2.2 = npL m ∧ ∀ j, j < p → gI x.2 (13, 0) j = gI y.2.2 (31, 0) j ∧ isB (gI y.2.2 (31, 0) j) := by
    refine iterR (P := fun k s t => ∃ i p c' m', i + k = len ∧ p ≤ i ∧ s = (nI i, c') ∧ t = (nI p, nI i, m') ∧ gI c' (12, 0) 2 = nI p ∧ npC c' = npC c ∧ npL m' = npL m ∧ gI m' (20, 0) 30 = nI len ∧ (∀ j, j < len → j < p ∨ i ≤ j → gI c' (13, 0) j = gI m' (31, 0) j ∧ isB (gI m' (31, 0) j))) ?_ FU len _ _ ⟨0, 0, _, m, by omega, by omega, rfl, rfl, rfl, npC_2, rfl, hm, fun j hj _ => hd j hj⟩ (by show len < 1000; omega)
    rintro k s t ⟨i, p, c', m', h1, h2, rfl, rfl, h3, ec, em, h4, h5⟩
    have ei : (nI len ≤ nI i) = (len ≤ i) := nle (by omega) (by omega)
    have ei1 : (nI len ≤ nI (i + 1)) = (len ≤ i + 1) := nle (by omega) (by omega)
    have m18 : gI m' (20, 0) 18 = 0 := by rw [npL_I em (by decide), hi]
    rw [cargo_leaveOutReturns_l12, m_staying_l4, h4, m18, nI_1]
    simp only [ei, ei1]
    by_cases g : len ≤ i
    · left
      rw [if_pos g, if_pos g]
      exact ⟨_, _, rfl, rfl, p, rfl, by omega, h3, ec, em, fun j hj => h5 j (by omega) (Or.inl hj)⟩
    · right
      have hil : i < len := by omega
      obtain ⟨d1, b, hb, d2⟩ := h5 i hil (Or.inr (Nat.le_refl i))
      have gb1 : ∀ {A : Type} (o : Option A), guardB (nI i) 192 o = o := fun o => gB (by omega) (by decide)
      have gb2 : ∀ {A : Type} (o : Option A), guardB (nI i) 200 o = o := fun o => gB (by omega) (by decide)
      have gb3 : ∀ {A : Type} (o : Option A), guardB (nI p) 200 o = o := fun o => gB (by omega) (by decide)
      have gb4 : ∀ {A : Type} (o : Option A), guardB (nI (i + 1)) 192 o = o := fun o => gB (by omega) (by decide)
      have gb5 : ∀ {A : Type} (o : Option A), guardB (nI (i + 1)) 200 o = o := fun o => gB (by omega) (by decide)
      have n192 : ¬ (192 : Int32) ≤ nI i := by rw [show (192 : Int32) = nI 192 from rfl, nle (by omega) (by decide)]; omega
      have n192b : ¬ (192 : Int32) ≤ nI (i + 1) := by rw [show (192 : Int32) = nI 192 from rfl, nle (by omega) (by decide)]; omega
      have hadd := cadd_raw (x := gI m' (31, 0) i) h3 (by omega)
      rw [if_neg g, if_neg g, if_neg n192, if_neg n192b]
      simp only [gb1, gb2, gb3, gb4, gb5, clI (show i < 2 ^ 31 by omega), clI (show p < 2 ^ 31 by omega), clI (show i + 1 < 2 ^ 31 by omega), d1]
      have out : ∃ t, (if len ≤ i + 1 then some (0 : Int32) else if gI c' (13, 0) (i + 1) = (10 : Int32) then some (1 : Int32) else some (0 : Int32)) = some t ∧ (if len ≤ i + 1 then some (0 : Int32) else if gI m' (31, 0) (i + 1) = (10 : Int32) then some (1 : Int32) else some (0 : Int32)) = some t ∧ r01 t := by
        by_cases q : len ≤ i + 1
        · rw [if_pos q, if_pos q]
          exact ⟨0, rfl, rfl, Or.inl rfl⟩
        · rw [if_neg q, if_neg q, (h5 (i + 1) (by omega) (Or.inr (by omega))).1]
          by_cases q2 : gI m' (31, 0) (i + 1) = (10 : Int32)
          · rw [if_pos q2]
            exact ⟨1, rfl, rfl, Or.inr rfl⟩
          · rw [if_neg q2]
            exact ⟨0, rfl, rfl, Or.inl rfl⟩
      obtain ⟨t, o1, o2, o3⟩ := out
      rw [o1, o2, Option.bind_some]
      have stay : ∃ s' t' k', k' < k ∧ ((cargo_add (gI m' (31, 0) i) c').bind fun y12 => some y12).bind (fun t10 => some (Sum.inr (α := Int32 × Hp) (nI (i + 1), t10))) = some (Sum.inr s') ∧ (some (nI p + 1) : Option Int32).bind (fun t12 => some (Sum.inr (α := Int32 × Int32 × Hp) (t12, nI (i + 1), sI m' (31, 0) p (gI m' (31, 0) i)))) = some (Sum.inr t') ∧ ∃ i p c' m', i + k' = len ∧ p ≤ i ∧ s' = (nI i, c') ∧ t' = (nI p, nI i, m') ∧ gI c' (12, 0) 2 = nI p ∧ npC c' = npC c ∧ npL m' = npL m ∧ gI m' (20, 0) 30 = nI len ∧ (∀ j, j < len → j < p ∨ i ≤ j → gI c' (13, 0) j = gI m' (31, 0) j ∧ isB (gI m' (31, 0) j)) := by
        rw [hadd, Option.bind_some, Option.bind_some, Option.bind_some, nI_1]
        refine ⟨_, _, k - 1, by omega, rfl, rfl, i + 1, p + 1, _, _, by omega, by omega, rfl, rfl, rfl, by rw [npC_2, npC_13, ec], by rw [npL_31, em], h4, fun j hj hpj => ?_⟩
        rw [g13, g31]
        by_cases e : j = p
        · rw [if_pos e, if_pos e]
          exact ⟨rfl, b, hb, d2⟩
        · rw [if_neg e, if_neg e]
          exact h5 j hj (by omega)
      by_cases q13 : gI m' (31, 0) i = (13 : Int32)
      · rw [if_pos q13, if_pos q13, if_pos trivial, Option.bind_some]
        rcases o3 with rfl | rfl
        · rw [if_pos rfl, if_pos rfl]
          exact stay
        · rw [if_neg one_ne, if_neg one_ne, Option.bind_some, Option.bind_some]
          refine ⟨_, _, k - 1, by omega, rfl, rfl, i + 1, p, c', _, by omega, by omega, rfl, rfl, h3, ec, by rw [npL_31, em], h4, fun j hj hpj => ?_⟩
          rw [g31, if_neg (by omega)]
          exact h5 j hj (by omega)
      · rw [if_neg q13, if_neg q13, if_pos trivial, Option.bind_some, if_pos rfl]
        exact stay
  obtain ⟨x, y, e1, e2, p, k1, k2, k3, k4, k5, k6⟩ := key
  refine ⟨x.2, y.2.2, p, ?_, ?_, k2, k3, k4, k5, k6⟩
  · rw [cargo_leaveOutReturns, hc, e1]; rfl
  · rw [m_staying, e2, Option.bind_some, k1]
theorem stay_image {m : Hp} {len : Nat} (hl : len ≤ 80) (hm : gI m (20, 0) 30 = nI len) (hi : gI m (20, 0) 18 ≠ 0) : ∃ m', m_staying m = some (nI len, m') ∧ npL m' = npL m ∧ ∀ j, gI m' (31, 0) j = gI m (31, 0) j := by
  have key : ∃ y, iter m_staying_l4 FU ((0 : Int32), (0 : Int32), m) = some y ∧ y.1 = nI len ∧ npL y.2.2 = npL m ∧ ∀ j, gI y.2.2 (31, 0) j = gI m (31, 0) j := by
    refine iterN (P := fun k t => ∃ i m', i + k = len ∧ t = (nI i, nI i, m') ∧ npL m' = npL m ∧ gI m' (20, 0) 30 = nI len ∧ ∀ j, gI m' (31, 0) j = gI m (31, 0) j) ?_ FU len _ ⟨0, m, by omega, rfl, rfl, hm, fun _ => rfl⟩ (by show len < 1000; omega)
    rintro k t ⟨i, m', h1, rfl, em, h4, h5⟩
    have ei : (nI len ≤ nI i) = (len ≤ i) := nle (by omega) (by omega)
    have m18 : gI m' (20, 0) 18 ≠ 0 := by rw [npL_I em (by decide)]; exact hi
    rw [m_staying_l4, h4]
    simp only [ei]
    by_cases g : len ≤ i
    · left
      rw [if_pos g]
      exact ⟨_, rfl, by rw [show i = len by omega], em, h5⟩
    · right
      have gb2 : ∀ {A : Type} (o : Option A), guardB (nI i) 200 o = o := fun o => gB (by omega) (by decide)
      rw [if_neg g, if_neg m18, Option.bind_some]
      simp only [gb2, clI (show i < 2 ^ 31 by omega), if_true, Option.bind_some, nI_1]
      refine ⟨_, k - 1, by omega, rfl, i + 1, _, by omega, rfl, by rw [npL_31, em], h4, fun j => ?_⟩
      rw [g31]
      by_cases e : j = i
      · rw [if_pos e, h5 i, e]
      · rw [if_neg e, h5 j]
  obtain ⟨y, e2, k1, k2, k3⟩ := key
  exact ⟨y.2.2, by rw [m_staying, e2, Option.bind_some, k1], k2, k3⟩
