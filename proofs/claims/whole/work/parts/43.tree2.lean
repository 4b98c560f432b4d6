/-! changes of the tree -/
def cnt (p : Nat → Bool) : Nat → Nat
  | 0 => 0
  | n + 1 => cnt p n + (if p n = true then 1 else 0)
theorem cnt_mono {p q : Nat → Bool} : ∀ {n : Nat}, (∀ j, j < n → p j = true → q j = true) → cnt p n ≤ cnt q n
  | 0, _ => Nat.le_refl _
  | n + 1, h => by
    have ih := cnt_mono (n := n) fun j hj => h j (by omega)
    have hn := h n (by omega)
    rw [cnt, cnt]
    by_cases a : p n = true
    · rw [if_pos a, if_pos (hn a)]; omega
    · rw [if_neg a]; omega
theorem cnt_lt {p q : Nat → Bool} {k : Nat} : ∀ {n : Nat}, (∀ j, j < n → p j = true → q j = true) → k < n → q k = true → p k = false → cnt p n < cnt q n
  | 0, _, hk, _, _ => by omega
  | n + 1, h, hk, h1, h2 => by
    rw [cnt, cnt]
    by_cases e : k = n
    · subst e
      have := cnt_mono (n := k) (p := p) (q := q) fun j hj => h j (by omega)
      rw [if_pos h1, if_neg (by rw [h2]; decide)]
      omega
    · have ih := cnt_lt (n := n) (fun j hj => h j (by omega)) (by omega) h1 h2
      have hn := h n (by omega)
      by_cases a : p n = true
      · rw [if_pos a, if_pos (hn a)]; omega
      · rw [if_neg a]; omega
theorem cnt_all : cnt (fun _ => true) 24 = 24 := by decide
theorem rD_of {c m : Hp} (hn : rNs c m) (d : Nat → Nat) (h : ∀ i, i < 24 → gI m (21, 0) i ≠ 0 → par m i ≠ i → d (par m i) < d i) : rD m := by
  refine ⟨fun i => cnt (fun j => decide (d j < d i)) 24, fun i hi hu => ⟨?_, fun hp => ?_⟩⟩
  · have := cnt_lt (p := fun j => decide (d j < d i)) (q := fun _ => true) (k := i) (n := 24) (fun _ _ _ => rfl) hi rfl (by simp)
    rw [cnt_all] at this
    exact this
  · have h1 := h i hi hu hp
    have h2 := (rP_par (rN_P (hn i hi) hu) hi).1
    refine cnt_lt (k := par m i) (fun j hj hx => ?_) h2 (by simpa using h1) (by simp)
    have : d j < d (par m i) := of_decide_eq_true hx
    exact decide_eq_true (by omega)
theorem rP_keep {c m c' m' : Hp} {j : Nat} (h : rP c m j) (e5 : gR c' (5, j) 5 = gR c (5, j) 5) (e22 : gI m' (22, 0) j = gI m (22, 0) j) (e21 : gI m' (21, 0) j = gI m (21, 0) j) (e4 : gL c' (5, j) 4 = gL c (5, j) 4) (e23 : gL m' (23, 0) j = gL m (23, 0) j) (hk : ∀ p, p < 24 → p ≠ j → gI m (22, 0) j = nI p → gI m (21, 0) p = 1 → gI m' (21, 0) p = 1) : rP c' m' j := by
  rcases h with ⟨h1, h2, h3⟩ | ⟨p, h1, h2, h3, h4, h5, h6, h7⟩
  · exact Or.inl ⟨by rw [e5, h1], by rw [e22, h2], by rw [e21, h3]⟩
  · exact Or.inr ⟨p, h1, h2, by rw [e5, h3], by rw [e22, h4], hk p h1 h2 h4 h5, by rw [e4, e23, h6], by rw [e23]; exact h7⟩
theorem rN_keep {c m c' m' : Hp} {j : Nat} (h : rN c m j) (e21 : gI m' (21, 0) j = gI m (21, 0) j) (e1 : gI c' (5, j) 1 = gI c (5, j) 1) (e2 : gI c' (5, j) 2 = gI c (5, j) 2) (e3 : gI c' (5, j) 3 = gI c (5, j) 3) (e24 : gI m' (24, 0) j = gI m (24, 0) j) (e6 : ∀ s, s < 32 → gI c' (6, j) s = gI c (6, j) s) (e25 : ∀ s, s < 32 → gI m' (25, 0) (32 * j + s) = gI m (25, 0) (32 * j + s)) (hp : gI m (21, 0) j ≠ 0 → rP c m j → rP c' m' j) : rN c' m' j := by
  rcases h with ⟨h1, h2, h3⟩ | ⟨h1, h2, h3, h4, h5⟩ | ⟨h1, h2, h3, ⟨z, z1, z2, z3, z4⟩, h5⟩
  · exact Or.inl ⟨by rw [e21, h1], by rw [e2, h2], by rw [e1, h3]⟩
  · exact Or.inr (Or.inl ⟨by rw [e21, h1], by rw [e2, h2], by rw [e3, h3], by rw [e1, h4], hp (by rw [h1]; decide) h5⟩)
  · refine Or.inr (Or.inr ⟨by rw [e21, h1], by rw [e2, h2], by rw [e3, h3], ⟨z, z1, by rw [e1, z2], by rw [e24, z3], fun s hs => ?_⟩, hp (by rw [h1]; decide) h5⟩)
    rw [e6 s (by omega), e25 s (by omega)]
    exact z4 s hs
theorem under_keep {c m m' : Hp} (hn : rNs c m) (hp : ∀ i, i < 24 → gI m (21, 0) i ≠ 0 → par m' i = par m i) {q r : Nat} (hq : q < 24) (hu : gI m (21, 0) q ≠ 0) (h : under m q r) : under m' q r := by
  obtain ⟨n, h⟩ := h
  induction n generalizing q with
  | zero =>
    have h1 : q = r := h
    exact ⟨0, h1⟩
  | succ n ih =>
    obtain ⟨p1, p2, p3, -, -⟩ := rP_par (rN_P (hn q hq) hu) hq
    obtain ⟨k, hk⟩ := ih p1 (by rw [p3]; decide) h
    exact ⟨k + 1, by rw [up, hp q hq hu]; exact hk⟩
theorem rAcc_k {c m m' : Hp} (h : rAcc c m) (e5 : gI m' (20, 0) 5 = gI m (20, 0) 5) (e26 : ∀ k, gL m' (26, 0) k = gL m (26, 0) k) (e27 : ∀ k, gL m' (27, 0) k = gL m (27, 0) k) (e28 : ∀ k, gI m' (28, 0) k = gI m (28, 0) k) (hk : ∀ r, r < 24 → gI m (21, 0) r = 1 → gI m (22, 0) r = nI r → gI m' (21, 0) r = 1 ∧ gI m' (22, 0) r = nI r) : rAcc c m' := by
  obtain ⟨a, a1, a2, a3, a4, a5, a6⟩ := h
  refine ⟨a, a1, a2, by rw [e5, a3], a4, a5, fun k hk2 => ?_⟩
  obtain ⟨b1, b2, b3, b4, b5, r, r1, r2, r3, r4, r5⟩ := a6 k hk2
  obtain ⟨k1, k2⟩ := hk r r1 r4 r5
  exact ⟨b1, by rw [e26, b2], by rw [e27, b3], by rw [e26]; exact b4, fun j hj => by rw [e26, e26]; exact b5 j hj, r, r1, r2, by rw [e28, r3], k1, k2⟩
theorem rLog_k {c m m' : Hp} (h : rLog c m) (e16 : gI m' (20, 0) 16 = gI m (20, 0) 16) (e17 : gI m' (20, 0) 17 = gI m (20, 0) 17) (hk : ∀ r q, LG c m r q → gI m' (21, 0) r = 1 ∧ gI m' (22, 0) r = nI r ∧ gI m' (21, 0) q = 1 ∧ under m' q r) : rLog c m' := by
  rcases h with ⟨h1, h2⟩ | ⟨r, q, l1, l2, l3, l4, l5, l6, l7, l8, l9, l10⟩
  · exact Or.inl ⟨h1, by rw [e16, h2]⟩
  · obtain ⟨k1, k2, k3, k4⟩ := hk r q ⟨l1, l2, l3, l4, l5, l6, l7, l8, l9, l10⟩
    exact Or.inr ⟨r, q, l1, l2, l3, by rw [e16, l4], l5, by rw [e17, l6], k1, k2, k3, k4⟩
theorem rMem_k {c m m' : Hp} (h : rMem c m) (e19 : gL m' (20, 0) 19 = gL m (20, 0) 19) (e20 : gI m' (20, 0) 20 = gI m (20, 0) 20) (e21 : gI m' (20, 0) 21 = gI m (20, 0) 21) (hk : ∀ i, gR c (14, 1) 2 = some i → i < 24 → gI m (21, 0) i ≠ 0 → gI m (22, 0) i ≠ nI i → gI m' (21, 0) i ≠ 0 ∧ gI m' (22, 0) i ≠ nI i) : rMem c m' := by
  obtain ⟨h1, ⟨z, z1, z2, z3⟩, h3⟩ := h
  refine ⟨by rw [e19, h1], ⟨z, z1, z2, by rw [e21, z3]⟩, ?_⟩
  rw [e20]
  rcases h3 with h | ⟨i, i1, i2, i3, i4, i5⟩
  · exact Or.inl h
  · obtain ⟨k1, k2⟩ := hk i i2 i1 i4 i5
    exact Or.inr ⟨i, i1, i2, i3, k1, k2⟩
theorem rCar_z {c m m' : Hp} (h : rCar c m) (hz : gI m (20, 0) 28 = 0) (e : gI m' (20, 0) 28 = gI m (20, 0) 28) : rCar c m' := by
  obtain ⟨h1, h2⟩ := h
  refine ⟨by rw [e, h1], Or.inl ⟨by rw [e, hz], ?_⟩⟩
  rcases h2 with h | h | h
  · exact h.2
  · rw [hz] at h; exact absurd h.1 (by decide)
  · rw [hz] at h; exact absurd h.1 (by decide)
def RelN (c m : Hp) : Prop := rNs c m ∧ rD m ∧ rAcc c m ∧ rLog c m
theorem ad_ne {t j k : Nat} (h : j ≠ k) : ¬ ((t, j) : Ad) = (t, k) := fun z => h (Prod.mk.inj z).2
/-- a node is taken away -/
theorem free_N {c m c' m' : Hp} {i : Nat} (h : RelN c m) (hi : i < 24) (he : ∀ j, j < 24 → ¬ inD m i j) (hroot : gI m (22, 0) i ≠ nI i) (hq : ∀ q, gR c (0, 0) 11 = some q → q ≠ i) (ec : c' = sI (sR (sI c (5, i) 2 (0 : Int32)) (5, i) 5 none) (5, i) 1 (0 : Int32)) (em : m' = sI m (21, 0) i (0 : Int32)) : RelN c' m' := by
  obtain ⟨hn, hd, ha, hg⟩ := h
  have e21 : ∀ j, j ≠ i → gI m' (21, 0) j = gI m (21, 0) j := fun j hj => by rw [em, gI_sI, if_neg (fun z => hj z.2)]
  have e21i : gI m' (21, 0) i = 0 := by rw [em, gI_sI, if_pos ⟨rfl, rfl⟩]
  have e22 : ∀ j, gI m' (22, 0) j = gI m (22, 0) j := fun j => by rw [em]; rfl
  have ep : ∀ j, par m' j = par m j := fun j => by unfold par; rw [e22]
  have hn' : rNs c' m' := by
    intro j hj
    by_cases e : j = i
    · subst e
      refine Or.inl ⟨e21i, ?_, ?_⟩
      · rw [ec]; simp [gI_sI, gI_sR]
      · rw [ec]; simp [gI_sI, gI_sR]
    · refine rN_keep (hn j hj) (e21 j e) ?_ ?_ ?_ (by rw [em]; rfl) (fun s _ => by rw [ec]; simp [gI_sI, gI_sR]) (fun s _ => by rw [em]; rfl) fun hu hp => rP_keep hp ?_ (e22 j) (e21 j e) ?_ (by rw [em]; rfl) ?_
      · rw [ec]; simp [gI_sI, gI_sR, e]
      · rw [ec]; simp [gI_sI, gI_sR, e]
      · rw [ec]; simp [gI_sI, gI_sR, e]
      · rw [ec]; simp [gR_sI, gR_sR, e]
      · rw [ec]; rfl
      · intro p p1 p2 p3 p4
        by_cases pe : p = i
        · exact absurd ⟨hu, by rw [p3, pe], by rw [← pe]; exact fun z => p2 z.symm⟩ (he j hj)
        · rw [e21 p pe]; exact p4
  refine ⟨hn', ?_, ?_, ?_⟩
  · obtain ⟨d, hd⟩ := hd
    refine ⟨d, fun j hj hu => ?_⟩
    have hji : j ≠ i := fun z => hu (by rw [z]; exact e21i)
    rw [e21 j hji] at hu
    rw [ep]
    exact hd j hj hu
  · have ha2 : rAcc c m' := rAcc_k ha (by rw [em]; rfl) (fun k => by rw [em]; rfl) (fun k => by rw [em]; rfl) (fun k => by rw [em]; rfl) fun r r1 r2 r3 => by
      have : r ≠ i := fun z => hroot (by rw [← z]; exact r3)
      exact ⟨by rw [e21 r this]; exact r2, by rw [e22]; exact r3⟩
    rw [ec]
    exact ha2
  · have hg2 : rLog c m' := rLog_k hg (by rw [em]; rfl) (by rw [em]; rfl) fun r q l => by
      obtain ⟨l1, l2, l3, l4, l5, l6, l7, l8, l9, l10⟩ := l
      have h1 : r ≠ i := fun z => hroot (by rw [← z]; exact l8)
      have h2 : q ≠ i := hq q l5
      exact ⟨by rw [e21 r h1]; exact l7, by rw [e22]; exact l8, by rw [e21 q h2]; exact l9, under_keep hn (fun j _ _ => ep j) l2 (by rw [l9]; decide) l10⟩
    rw [ec]
    exact hg2
/-- a node is made in a directory -/
theorem add_N {c m c' m' : Hp} {k p : Nat} {nm : Int64} {kd dir : Int32} (h : RelN c m) (hk : k < 24) (h0 : gI m (21, 0) k = 0) (hp : p < 24) (hp1 : gI m (21, 0) p = 1) (hw : wfN nm) (hkd : (kd = 1 ∧ dir = 1) ∨ (kd = 2 ∧ dir = 0)) (ec : c' = sI (sL (sR (sI c (5, k) 2 (1 : Int32)) (5, k) 5 (some p)) (5, k) 4 nm) (5, k) 3 dir) (em : m' = sI (sL (sI (sI m (21, 0) k kd) (22, 0) k (nI p)) (23, 0) k nm) (24, 0) k (0 : Int32)) : RelN c' m' := by
  obtain ⟨hn, hd, ha, hg⟩ := h
  have hpk : p ≠ k := fun z => by rw [z, h0] at hp1; exact absurd hp1 (by decide)
  have e21 : ∀ j, j ≠ k → gI m' (21, 0) j = gI m (21, 0) j := fun j hj => by
    rw [em]
    show (if (21, 0) = ((21, 0) : Ad) ∧ j = k then kd else gI m (21, 0) j) = _
    rw [if_neg (fun z => hj z.2)]
  have e21k : gI m' (21, 0) k = kd := by
    rw [em]
    show (if (21, 0) = ((21, 0) : Ad) ∧ k = k then kd else gI m (21, 0) k) = _
    rw [if_pos ⟨rfl, rfl⟩]
  have e22 : ∀ j, j ≠ k → gI m' (22, 0) j = gI m (22, 0) j := fun j hj => by
    rw [em]
    show (if (22, 0) = ((22, 0) : Ad) ∧ j = k then nI p else gI m (22, 0) j) = _
    rw [if_neg (fun z => hj z.2)]
  have e22k : gI m' (22, 0) k = nI p := by
    rw [em]
    show (if (22, 0) = ((22, 0) : Ad) ∧ k = k then nI p else gI m (22, 0) k) = _
    rw [if_pos ⟨rfl, rfl⟩]
  have e23 : ∀ j, j ≠ k → gL m' (23, 0) j = gL m (23, 0) j := fun j hj => by
    rw [em]
    show (if (23, 0) = ((23, 0) : Ad) ∧ j = k then nm else gL m (23, 0) j) = _
    rw [if_neg (fun z => hj z.2)]
  have e23k : gL m' (23, 0) k = nm := by
    rw [em]
    show (if (23, 0) = ((23, 0) : Ad) ∧ k = k then nm else gL m (23, 0) k) = _
    rw [if_pos ⟨rfl, rfl⟩]
  have e24 : ∀ j, j ≠ k → gI m' (24, 0) j = gI m (24, 0) j := fun j hj => by
    rw [em]
    show (if (24, 0) = ((24, 0) : Ad) ∧ j = k then (0 : Int32) else gI m (24, 0) j) = _
    rw [if_neg (fun z => hj z.2)]
  have e24k : gI m' (24, 0) k = 0 := by
    rw [em]
    show (if (24, 0) = ((24, 0) : Ad) ∧ k = k then (0 : Int32) else gI m (24, 0) k) = _
    rw [if_pos ⟨rfl, rfl⟩]
  have ep : ∀ j, j < 24 → gI m (21, 0) j ≠ 0 → par m' j = par m j := fun j _ hu => by
    unfold par; rw [e22 j (fun z => hu (by rw [z]; exact h0))]
  have epk : par m' k = p := par_nI e22k hp
  have hs0 : gI c (5, k) 1 = 0 := by
    rcases hn k hk with h | h | h
    · exact h.2.2
    · rw [h0] at h; exact absurd h.1 (by decide)
    · rw [h0] at h; exact absurd h.1 (by decide)
  have hn' : rNs c' m' := by
    intro j hj
    by_cases e : j = k
    · subst e
      have hP : rP c' m' j := Or.inr ⟨p, hp, hpk, by rw [ec]; simp [gR_sI, gR_sL, gR_sR], e22k, by rw [e21 p hpk]; exact hp1, by rw [e23k, ec]; simp [gL_sI, gL_sL, gL_sR], by rw [e23k]; exact hw⟩
      have c2 : gI c' (5, j) 2 = 1 := by rw [ec]; simp [gI_sI, gI_sR, gI_sL]
      have c1 : gI c' (5, j) 1 = 0 := by rw [ec]; simp [gI_sI, gI_sR, gI_sL, hs0]
      have c3 : gI c' (5, j) 3 = dir := by rw [ec]; simp [gI_sI, gI_sR, gI_sL]
      rcases hkd with ⟨k1, k2⟩ | ⟨k1, k2⟩
      · exact Or.inr (Or.inl ⟨by rw [e21k, k1], c2, by rw [c3, k2], c1, hP⟩)
      · exact Or.inr (Or.inr ⟨by rw [e21k, k1], c2, by rw [c3, k2], ⟨0, by decide, c1, e24k, fun s hs => by omega⟩, hP⟩)
    · refine rN_keep (hn j hj) (e21 j e) ?_ ?_ ?_ (e24 j e) (fun s _ => by rw [ec]; simp [gI_sI, gI_sR, gI_sL]) (fun s _ => by rw [em]; rfl) fun hu hP => rP_keep hP ?_ (e22 j e) (e21 j e) ?_ (e23 j e) ?_
      · rw [ec]; simp [gI_sI, gI_sR, gI_sL, e]
      · rw [ec]; simp [gI_sI, gI_sR, gI_sL, e]
      · rw [ec]; simp [gI_sI, gI_sR, gI_sL, e]
      · rw [ec]; simp [gR_sI, gR_sR, gR_sL, e]
      · rw [ec]; simp [gL_sI, gL_sR, gL_sL, e]
      · intro x x1 x2 x3 x4
        rw [e21 x (fun z => by rw [z, h0] at x4; exact absurd x4 (by decide))]
        exact x4
  refine ⟨hn', ?_, ?_, ?_⟩
  · obtain ⟨d, hd⟩ := hd
    refine rD_of hn' (fun j => if j = k then d p + 1 else d j) fun j hj hu hpj => ?_
    by_cases e : j = k
    · subst e
      show (if par m' j = j then d p + 1 else d (par m' j)) < (if j = j then d p + 1 else d j)
      rw [epk, if_neg hpk, if_pos rfl]
      omega
    · rw [e21 j e] at hu
      rw [ep j hj hu] at hpj ⊢
      have p3 := (rP_par (rN_P (hn j hj) hu) hj).2.2.1
      have e2 : par m j ≠ k := fun z => by rw [z, h0] at p3; exact absurd p3 (by decide)
      show (if par m j = k then d p + 1 else d (par m j)) < (if j = k then d p + 1 else d j)
      rw [if_neg e, if_neg e2]
      exact (hd j hj hu).2 hpj
  · have ha2 : rAcc c m' := rAcc_k ha (by rw [em]; rfl) (fun k => by rw [em]; rfl) (fun k => by rw [em]; rfl) (fun k => by rw [em]; rfl) fun r r1 r2 r3 => by
      have : r ≠ k := fun z => by rw [z, h0] at r2; exact absurd r2 (by decide)
      exact ⟨by rw [e21 r this]; exact r2, by rw [e22 r this]; exact r3⟩
    rw [ec]
    exact ha2
  · have hg2 : rLog c m' := rLog_k hg (by rw [em]; rfl) (by rw [em]; rfl) fun r q l => by
      obtain ⟨l1, l2, l3, l4, l5, l6, l7, l8, l9, l10⟩ := l
      have h1 : r ≠ k := fun z => by rw [z, h0] at l7; exact absurd l7 (by decide)
      have h2 : q ≠ k := fun z => by rw [z, h0] at l9; exact absurd l9 (by decide)
      exact ⟨by rw [e21 r h1]; exact l7, by rw [e22 r h1]; exact l8, by rw [e21 q h2]; exact l9, under_keep hn ep l2 (by rw [l9]; decide) l10⟩
    rw [ec]
    exact hg2
