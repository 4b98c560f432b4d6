/-! account -/
theorem acc_A {c m c' m' : Hp} {a k : Nat} {U W : Int64} (h : AC c m a) (ha : a < 4) (hk : k < 24) (hk0 : gI m (21, 0) k = 0) (hU : U ≠ 0) (hnew : ufi m U a = none) (e7 : gI c' (7, 0) 2 = nI (a + 1)) (e71 : gR c' (7, 0) 1 = some 1) (egn : gn c' = 74 + (a + 2)) (e16a : gR c' (16, 1) a = some a) (e16 : ∀ j, j ≠ a → gR c' (16, 1) j = gR c (16, 1) j) (e15 : ∀ j, j ≠ a → gL c' (15, j) 0 = gL c (15, j) 0 ∧ gL c' (15, j) 1 = gL c (15, j) 1 ∧ gR c' (15, j) 2 = gR c (15, j) 2) (e15a : gL c' (15, a) 0 = U ∧ gL c' (15, a) 1 = W ∧ gR c' (15, a) 2 = some k) (m5 : gI m' (20, 0) 5 = nI (a + 1)) (m26a : gL m' (26, 0) a = U) (m26 : ∀ j, j ≠ a → gL m' (26, 0) j = gL m (26, 0) j) (m27a : gL m' (27, 0) a = W) (m27 : ∀ j, j ≠ a → gL m' (27, 0) j = gL m (27, 0) j) (m28a : gI m' (28, 0) a = nI k) (m28 : ∀ j, j ≠ a → gI m' (28, 0) j = gI m (28, 0) j) (m21k : gI m' (21, 0) k = 1) (m21 : ∀ j, j ≠ k → gI m' (21, 0) j = gI m (21, 0) j) (m22k : gI m' (22, 0) k = nI k) (m22 : ∀ j, j ≠ k → gI m' (22, 0) j = gI m (22, 0) j) : rAcc c' m' := by
  obtain ⟨a1, a2, a3, a4, a5, a6⟩ := h
  refine ⟨a + 1, by omega, e7, m5, by rw [egn, if_neg (by omega)], by rw [e71, if_neg (by omega)], fun j hj => ?_⟩
  by_cases e : j = a
  · subst e
    refine ⟨e16a, by rw [e15a.1, m26a], by rw [e15a.2.1, m27a], by rw [m26a]; exact hU, fun i hi => ?_, k, hk, e15a.2.2, m28a, m21k, m22k⟩
    rw [m26 i (by omega), m26a]
    intro z
    have := ffi_none hnew i hi
    rw [decide_eq_true z] at this
    cases this
  · obtain ⟨b1, b2, b3, b4, b5, r, r1, r2, r3, r4, r5⟩ := a6 j (by omega)
    obtain ⟨x1, x2, x3⟩ := e15 j e
    have hrk : r ≠ k := fun z => by rw [z, hk0] at r4; exact absurd r4 (by decide)
    exact ⟨by rw [e16 j e, b1], by rw [x1, m26 j e, b2], by rw [x2, m27 j e, b3], by rw [m26 j e]; exact b4, fun i hi => by rw [m26 i (by omega), m26 j e]; exact b5 i hi, r, r1, by rw [x3, r2], by rw [m28 j e, r3], by rw [m21 r hrk, r4], by rw [m22 r hrk, r5]⟩
/-- a root is made -/
theorem root_N {c m c' m' : Hp} {k : Nat} (hn : rNs c m) (hd : rD m) (hg : rLog c m) (hk : k < 24) (h0 : gI m (21, 0) k = 0) (ec : c' = sI (sL (sR (sI c (5, k) 2 (1 : Int32)) (5, k) 5 none) (5, k) 4 (0 : Int64)) (5, k) 3 (1 : Int32)) (em : m' = sI (sL (sI (sI m (21, 0) k (1 : Int32)) (22, 0) k (nI k)) (23, 0) k (0 : Int64)) (24, 0) k (0 : Int32)) : rNs c' m' ∧ rD m' ∧ rLog c' m' ∧ gI m' (21, 0) k = 1 ∧ (∀ j, j ≠ k → gI m' (21, 0) j = gI m (21, 0) j) ∧ gI m' (22, 0) k = nI k ∧ (∀ j, j ≠ k → gI m' (22, 0) j = gI m (22, 0) j) := by
  have e21 : ∀ j, j ≠ k → gI m' (21, 0) j = gI m (21, 0) j := fun j hj => by
    rw [em]
    show (if (21, 0) = ((21, 0) : Ad) ∧ j = k then (1 : Int32) else gI m (21, 0) j) = _
    rw [if_neg (fun z => hj z.2)]
  have e21k : gI m' (21, 0) k = 1 := by
    rw [em]
    show (if (21, 0) = ((21, 0) : Ad) ∧ k = k then (1 : Int32) else gI m (21, 0) k) = _
    rw [if_pos ⟨rfl, rfl⟩]
  have e22 : ∀ j, j ≠ k → gI m' (22, 0) j = gI m (22, 0) j := fun j hj => by
    rw [em]
    show (if (22, 0) = ((22, 0) : Ad) ∧ j = k then nI k else gI m (22, 0) j) = _
    rw [if_neg (fun z => hj z.2)]
  have e22k : gI m' (22, 0) k = nI k := by
    rw [em]
    show (if (22, 0) = ((22, 0) : Ad) ∧ k = k then nI k else gI m (22, 0) k) = _
    rw [if_pos ⟨rfl, rfl⟩]
  have e23 : ∀ j, j ≠ k → gL m' (23, 0) j = gL m (23, 0) j := fun j hj => by
    rw [em]
    show (if (23, 0) = ((23, 0) : Ad) ∧ j = k then (0 : Int64) else gL m (23, 0) j) = _
    rw [if_neg (fun z => hj z.2)]
  have e24 : ∀ j, j ≠ k → gI m' (24, 0) j = gI m (24, 0) j := fun j hj => by
    rw [em]
    show (if (24, 0) = ((24, 0) : Ad) ∧ j = k then (0 : Int32) else gI m (24, 0) j) = _
    rw [if_neg (fun z => hj z.2)]
  have ep : ∀ j, j < 24 → gI m (21, 0) j ≠ 0 → par m' j = par m j := fun j _ hu => by
    unfold par; rw [e22 j (fun z => hu (by rw [z]; exact h0))]
  have epk : par m' k = k := par_nI e22k hk
  have hs0 : gI c (5, k) 1 = 0 := by
    rcases hn k hk with h | h | h
    · exact h.2.2
    · rw [h0] at h; exact absurd h.1 (by decide)
    · rw [h0] at h; exact absurd h.1 (by decide)
  have hn' : rNs c' m' := by
    intro j hj
    by_cases e : j = k
    · subst e
      have c2 : gI c' (5, j) 2 = 1 := by rw [ec]; simp [gI_sI, gI_sR, gI_sL]
      have c1 : gI c' (5, j) 1 = 0 := by rw [ec]; simp [gI_sI, gI_sR, gI_sL, hs0]
      have c3 : gI c' (5, j) 3 = 1 := by rw [ec]; simp [gI_sI, gI_sR, gI_sL]
      have c5 : gR c' (5, j) 5 = none := by rw [ec]; simp [gR_sI, gR_sL, gR_sR]
      exact Or.inr (Or.inl ⟨e21k, c2, c3, c1, Or.inl ⟨c5, e22k, e21k⟩⟩)
    · refine rN_keep (hn j hj) (e21 j e) ?_ ?_ ?_ (e24 j e) (fun s _ => by rw [ec]; simp [gI_sI, gI_sR, gI_sL]) (fun s _ => by rw [em]; rfl) fun hu hP => rP_keep hP ?_ (e22 j e) (e21 j e) ?_ (e23 j e) ?_
      · rw [ec]; simp [gI_sI, gI_sR, gI_sL, e]
      · rw [ec]; simp [gI_sI, gI_sR, gI_sL, e]
      · rw [ec]; simp [gI_sI, gI_sR, gI_sL, e]
      · rw [ec]; simp [gR_sI, gR_sR, gR_sL, e]
      · rw [ec]; simp [gL_sI, gL_sR, gL_sL, e]
      · intro x x1 x2 x3 x4
        rw [e21 x (fun z => by rw [z, h0] at x4; exact absurd x4 (by decide))]
        exact x4
  refine ⟨hn', ?_, ?_, e21k, e21, e22k, e22⟩
  · obtain ⟨d, hd⟩ := hd
    refine rD_of hn' d fun j hj hu hpj => ?_
    by_cases e : j = k
    · exact absurd (by rw [e]; exact epk) hpj
    · rw [e21 j e] at hu
      rw [ep j hj hu] at hpj ⊢
      exact (hd j hj hu).2 hpj
  · have hg2 : rLog c m' := rLog_k hg (by rw [em]; rfl) (by rw [em]; rfl) fun r q l => by
      obtain ⟨l1, l2, l3, l4, l5, l6, l7, l8, l9, l10⟩ := l
      have h1 : r ≠ k := fun z => by rw [z, h0] at l7; exact absurd l7 (by decide)
      have h2 : q ≠ k := fun z => by rw [z, h0] at l9; exact absurd l9 (by decide)
      exact ⟨by rw [e21 r h1]; exact l7, by rw [e22 r h1]; exact l8, by rw [e21 q h2]; exact l9, under_keep hn ep l2 (by rw [l9]; decide) l10⟩
    rw [ec]
    exact hg2
theorem unp_gn : ∀ a, a < 4 → unp (74 + (if a = 0 then 0 else a + 1)) = (15, a) := by decide
theorem alAdd_eq {h : Hp} {a : Nat} (ha : a < 4) (h2 : gI h (7, 0) 2 = nI a) (h1 : gR h (7, 0) 1 = (if a = 0 then some 0 else some 1)) (hg : gn h = 74 + (if a = 0 then 0 else a + 1) + 1) : ∃ h', al_add (some a) h = some (1, h') ∧ (∀ x s, ¬ (x = (7, 0)) → gI h' x s = gI h x s) ∧ (∀ x s, gL h' x s = gL h x s) ∧ (∀ x s, ¬ (x = (7, 0)) → ¬ (x = (16, 1) ∧ s = a) → gR h' x s = gR h x s) ∧ gI h' (7, 0) 2 = nI (a + 1) ∧ gR h' (7, 0) 1 = some 1 ∧ gR h' (16, 1) a = some a ∧ gn h' = 74 + (a + 2) ∧ hiP h' = hiP h := by
  unfold al_add al_add3
  have g1 : ∀ v, gR (sI h (7, 0) 0 v) (7, 0) 1 = gR h (7, 0) 1 := fun _ => rfl
  have g2 : ∀ v, gI (sI h (7, 0) 0 v) (7, 0) 2 = gI h (7, 0) 2 := fun _ => rfl
  have g3 : ∀ v, gn (sI h (7, 0) 0 v) = gn h := fun _ => rfl
  have hp := pos15 a ha
  rw [g1, g2, h1, h2]
  generalize gI h (7, 0) 0 + 1 = v
  by_cases z : a = 0
  · subst z
    have hgn : gn h = 75 := hg
    have e1 : lenE (if (0 : Nat) = 0 then some 0 else some 1) (sI h (7, 0) 0 v) = some 0 := rfl
    have e2 : al_grow1 (gI (sI h (7, 0) 0 v) (7, 0) 2 + 1) (sI h (7, 0) 0 v) = some (some 1, sR (sN (sI h (7, 0) 0 v)) (7, 0) 1 (some 1)) := by
      have k1 : gR (sI h (7, 0) 0 v) (7, 0) 1 = some 0 := h1
      have k2 : unp (gn (sI h (7, 0) 0 v)) = (16, 1) := by rw [g3, hgn]; decide
      rw [al_grow1, k1, lenE, if_pos rfl, Option.bind_some, if_neg (by decide), if_pos rfl, guardN, if_pos k2, g2, h2, guard10, if_pos (by decide)]
    have k3 : nda (sR (sN (sI h (7, 0) 0 v)) (7, 0) 1 (some 1)) (some 0) = some 0 := by
      have q : 0 < 4 ∧ pos (15, 0) < gn (sR (sN (sI h (7, 0) 0 v)) (7, 0) 1 (some 1)) := ⟨by decide, by
        show 74 < gn h + 1
        omega⟩
      exact if_pos q
    rw [e1, Option.bind_some, if_pos (show nI 0 = 0 from rfl), al_grow0, e2, Option.bind_some, Option.bind_some, Option.bind_some, k3, Option.bind_some, guardE, if_pos ⟨rfl, by show 75 < gn h + 1; omega⟩, gB (by decide) (by decide), Option.bind_some]
    refine ⟨_, rfl, fun x s hx => ?_, fun x s => rfl, fun x s hx hx2 => ?_, rfl, rfl, rfl, by show gn h + 1 = _; omega, ?_⟩
    · simp [gI_sI, gI_sR, gI_sN, hx]
    · simp [gR_sI, gR_sR, gR_sN, hx]
      intro q1 q2
      exact absurd ⟨q1, by rw [q2]; exact clI (by decide)⟩ hx2
    · rw [hiP_sI (by decide), hiP_sR (by decide), hiP_sR (by decide), hiP_sN, hiP_sI (by decide)]
  · rw [if_neg z] at hg
    have e1 : lenE (if a = 0 then some 0 else some 1) (sI h (7, 0) 0 v) = some 10 := by
      rw [if_neg z, lenE, if_neg (by decide), if_pos ⟨rfl, by rw [g3]; omega⟩]
    have ne : ¬ nI a = (10 : Int32) := fun q => by
      have := (nI_eq (b := 10) (by omega) (by decide)).mp q
      omega
    have k3 : nda (sI h (7, 0) 0 v) (some a) = some a := by
      show (if a < 4 ∧ pos (15, a) < gn h then some a else none) = some a
      rw [if_pos ⟨ha, by omega⟩]
    rw [e1, Option.bind_some, if_neg ne, Option.bind_some, k3, Option.bind_some, guardE, if_pos ⟨if_neg z, by rw [g3]; omega⟩, gB (by omega) (by decide), Option.bind_some, clI (by omega), nI_1]
    refine ⟨_, rfl, fun x s hx => ?_, fun x s => rfl, fun x s hx hx2 => ?_, rfl, ?_, ?_, by show gn h = _; omega, ?_⟩
    · simp [gI_sI, gI_sR, hx]
    · simp [gR_sI, gR_sR]
      intro q1 q2
      exact absurd ⟨q1, q2⟩ hx2
    · show gR h (7, 0) 1 = _
      rw [h1, if_neg z]
    · simp [gR_sI, gR_sR]
    · rw [hiP_sI (by decide), hiP_sR (by decide), hiP_sI (by decide)]
