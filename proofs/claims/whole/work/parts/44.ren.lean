/-! a node is moved -/
theorem under_ren {m m' : Hp} {i p r : Nat} (hpar : ∀ x, x ≠ i → par m' x = par m x) (hi : par m' i = p) (hpr : under m p r) (hnp : ¬ under m p i) : ∀ {x}, under m x r → under m' x r := by
  have s1 : ∀ n x, ¬ under m x i → up (par m) n x = r → under m' x r := by
    intro n
    induction n with
    | zero =>
      intro x _ h
      have h1 : x = r := h
      exact ⟨0, h1⟩
    | succ n ih =>
      intro x hx h
      have hxi : x ≠ i := fun z => hx ⟨0, z⟩
      obtain ⟨k, hk⟩ := ih (par m x) (fun z => hx (by
        obtain ⟨k, hk⟩ := z
        exact ⟨k + 1, hk⟩)) h
      exact ⟨k + 1, by rw [up, hpar x hxi]; exact hk⟩
  have s2 : ∀ n x, up (par m) n x = r → under m' x r := by
    intro n
    induction n with
    | zero =>
      intro x h
      have h1 : x = r := h
      exact ⟨0, h1⟩
    | succ n ih =>
      intro x h
      by_cases e : x = i
      · obtain ⟨n2, hn2⟩ := hpr
        obtain ⟨k, hk⟩ := s1 n2 p hnp hn2
        exact ⟨k + 1, by rw [up, e, hi]; exact hk⟩
      · obtain ⟨k, hk⟩ := ih (par m x) h
        exact ⟨k + 1, by rw [up, hpar x e]; exact hk⟩
  rintro x ⟨n, h⟩
  exact s2 n x h
theorem ren_N {c m c' m' : Hp} {i p : Nat} {nm : Int64} (h : RelN c m) (hi : i < 24) (hu : gI m (21, 0) i ≠ 0) (hroot : gI m (22, 0) i ≠ nI i) (hp : p < 24) (hp1 : gI m (21, 0) p = 1) (hw : wfN nm) (hnp : ¬ under m p i) (hpr : ∀ r q, LG c m r q → under m p r) (ec : c' = sL (sR c (5, i) 5 (some p)) (5, i) 4 nm) (em : m' = sL (sI m (22, 0) i (nI p)) (23, 0) i nm) : RelN c' m' := by
  obtain ⟨hn, hd, ha, hg⟩ := h
  have hpi : p ≠ i := fun z => hnp ⟨0, z⟩
  have e21 : ∀ j, gI m' (21, 0) j = gI m (21, 0) j := fun j => by rw [em]; rfl
  have e22 : ∀ j, j ≠ i → gI m' (22, 0) j = gI m (22, 0) j := fun j hj => by
    rw [em]
    show (if (22, 0) = ((22, 0) : Ad) ∧ j = i then nI p else gI m (22, 0) j) = _
    rw [if_neg (fun z => hj z.2)]
  have e22i : gI m' (22, 0) i = nI p := by
    rw [em]
    show (if (22, 0) = ((22, 0) : Ad) ∧ i = i then nI p else gI m (22, 0) i) = _
    rw [if_pos ⟨rfl, rfl⟩]
  have e23 : ∀ j, j ≠ i → gL m' (23, 0) j = gL m (23, 0) j := fun j hj => by
    rw [em]
    show (if (23, 0) = ((23, 0) : Ad) ∧ j = i then nm else gL m (23, 0) j) = _
    rw [if_neg (fun z => hj z.2)]
  have e23i : gL m' (23, 0) i = nm := by
    rw [em]
    show (if (23, 0) = ((23, 0) : Ad) ∧ i = i then nm else gL m (23, 0) i) = _
    rw [if_pos ⟨rfl, rfl⟩]
  have ep : ∀ j, j ≠ i → par m' j = par m j := fun j hj => by unfold par; rw [e22 j hj]
  have epi : par m' i = p := par_nI e22i hp
  have hn' : rNs c' m' := by
    intro j hj
    refine rN_keep (hn j hj) (e21 j) (by rw [ec]; rfl) (by rw [ec]; rfl) (by rw [ec]; rfl) (by rw [em]; rfl) (fun s _ => by rw [ec]; rfl) (fun s _ => by rw [em]; rfl) fun hu hP => ?_
    by_cases e : j = i
    · subst e
      exact Or.inr ⟨p, hp, hpi, by rw [ec]; simp [gR_sL, gR_sR], e22i, by rw [e21]; exact hp1, by rw [e23i, ec]; simp [gL_sL], by rw [e23i]; exact hw⟩
    · refine rP_keep hP ?_ (e22 j e) (e21 j) ?_ (e23 j e) fun x x1 x2 x3 x4 => by rw [e21]; exact x4
      · rw [ec]; simp [gR_sL, gR_sR, e]
      · rw [ec]; simp [gL_sL, gL_sR, e]
  refine ⟨hn', ?_, ?_, ?_⟩
  · obtain ⟨d, hd⟩ := hd
    obtain ⟨d', hd'⟩ := Classical.axiomOfChoice (r := fun j y => (under m j i → y = d j + d p + 1) ∧ (¬ under m j i → y = d j)) (fun j => by
      by_cases u : under m j i
      · exact ⟨d j + d p + 1, fun _ => rfl, fun z => absurd u z⟩
      · exact ⟨d j, fun z => absurd z u, fun _ => rfl⟩)
    refine rD_of hn' d' fun x hx hux hpx => ?_
    rw [e21] at hux
    by_cases e : x = i
    · subst e
      rw [epi, (hd' p).2 hnp, (hd' x).1 ⟨0, rfl⟩]
      omega
    · rw [ep x e] at hpx ⊢
      have h1 := (hd x hx hux).2 hpx
      by_cases u : under m x i
      · have u2 : under m (par m x) i := by
          obtain ⟨n, hn2⟩ := u
          cases n with
          | zero => exact absurd hn2 e
          | succ n => exact ⟨n, hn2⟩
        rw [(hd' x).1 u, (hd' _).1 u2]
        omega
      · have u2 : ¬ under m (par m x) i := fun z => u (by
          obtain ⟨n, hn2⟩ := z
          exact ⟨n + 1, hn2⟩)
        rw [(hd' x).2 u, (hd' _).2 u2]
        exact h1
  · have ha2 : rAcc c m' := rAcc_k ha (by rw [em]; rfl) (fun k => by rw [em]; rfl) (fun k => by rw [em]; rfl) (fun k => by rw [em]; rfl) fun r r1 r2 r3 => by
      have : r ≠ i := fun z => hroot (by rw [← z]; exact r3)
      exact ⟨by rw [e21 r]; exact r2, by rw [e22 r this]; exact r3⟩
    rw [ec]
    exact ha2
  · have hg2 : rLog c m' := rLog_k hg (by rw [em]; rfl) (by rw [em]; rfl) fun r q l => by
      have hpr2 := hpr r q l
      obtain ⟨l1, l2, l3, l4, l5, l6, l7, l8, l9, l10⟩ := l
      have h1 : r ≠ i := fun z => hroot (by rw [← z]; exact l8)
      exact ⟨by rw [e21 r]; exact l7, by rw [e22 r h1]; exact l8, by rw [e21 q]; exact l9, under_ren ep epi hpr2 hnp l10⟩
    rw [ec]
    exact hg2
/-- a look up from p for i -/
theorem lies_c {c m : Hp} {p i r D : Nat} (hn : rNs c m) (hw : way c m p r D) (hr : par m r = r) (hD : D < 24) : ∃ t, tree_liesIn (some p) (some i) c = some t ∧ ((t = 1 ∧ under m p i) ∨ (t = 0 ∧ ¬ under m p i)) := by
  have hno : (∀ q, q ≤ D → up (par m) q p ≠ i) → ¬ under m p i := by
    rintro h ⟨n, hn2⟩
    by_cases z : n ≤ D
    · exact h n z hn2
    · have e : up (par m) n p = r := by
        rw [show n = D + (n - D) by omega, up_add, hw.1, up_fix hr]
      exact h D (Nat.le_refl D) (by rw [hw.1, ← hn2, e])
  have key : ∃ x, iter (tree_liesIn_l5 (some i) c) FU (some p, (0 : Int32)) = some x ∧ ((x = .inl 1 ∧ under m p i) ∨ ((∃ u, x = .inr u) ∧ ¬ under m p i)) := by
    refine iterN (P := fun w st => (∃ q, st = (some (up (par m) q p), nI q) ∧ q + w = D + 1 ∧ q ≤ D ∧ ∀ q', q' < q → up (par m) q' p ≠ i) ∨ ((∃ j, st = (none, nI j)) ∧ ¬ under m p i)) ?_ FU (D + 1) _ (Or.inl ⟨0, rfl, by omega, by omega, fun q' h => by omega⟩) (by show D + 1 < 1000; omega)
    rintro w st (⟨q, rfl, h1, h2, h3⟩ | ⟨⟨j, rfl⟩, h⟩)
    · obtain ⟨q1, q2, q3⟩ := hw.2 q h2
      obtain ⟨p1, p2, p3, p4, p5⟩ := rP_par (rN_P (hn _ q1) q2) q1
      have c1 : ¬ (some (up (par m) q p) = (none : Option Nat)) := fun z => by cases z
      rw [tree_liesIn_l5, if_neg (by rw [show (24 : Int32) = nI 24 from rfl, nle (by omega) (by omega)]; omega), if_neg c1]
      by_cases g : up (par m) q p = i
      · left
        rw [g, if_pos rfl]
        exact ⟨_, rfl, Or.inl ⟨rfl, q, g⟩⟩
      · right
        rw [if_neg (fun z => g (Option.some.inj z)), nd24 q1, Option.bind_some, nI_1]
        by_cases e : q = D
        · refine ⟨_, w - 1, by omega, rfl, Or.inr ⟨⟨q + 1, ?_⟩, hno fun q' hq' => ?_⟩⟩
          · rw [p4.mpr (by rw [e, hw.1]; exact hr)]
          · by_cases z : q' = q
            · rw [z]; exact g
            · exact h3 q' (by omega)
        · refine ⟨_, w - 1, by omega, rfl, Or.inl ⟨q + 1, ?_, by omega, by omega, fun q' hq' => ?_⟩⟩
          · rw [p5 (q3 (by omega)), up_succ]
          · by_cases z : q' = q
            · rw [z]; exact g
            · exact h3 q' (by omega)
    · left
      rw [tree_liesIn_l5]
      by_cases z : (24 : Int32) ≤ nI j
      · rw [if_pos z]
        exact ⟨_, rfl, Or.inr ⟨⟨_, rfl⟩, h⟩⟩
      · rw [if_neg z, if_pos rfl]
        exact ⟨_, rfl, Or.inr ⟨⟨_, rfl⟩, h⟩⟩
  obtain ⟨x, e, k⟩ := key
  rw [tree_liesIn, e, Option.bind_some]
  rcases k with ⟨rfl, k⟩ | ⟨⟨u, rfl⟩, k⟩
  · exact ⟨1, rfl, Or.inl ⟨rfl, k⟩⟩
  · exact ⟨0, rfl, Or.inr ⟨rfl, k⟩⟩
theorem lies_m {c m : Hp} {p i r D : Nat} (hn : rNs c m) (hi : i < 24) (hw : way c m p r D) (hr : par m r = r) (hD : D < 24) : ∃ t, m_liesIn (nI p) (nI i) m = some t ∧ ((t = 1 ∧ under m p i) ∨ (t = 0 ∧ ¬ under m p i)) := by
  have hno : (∀ q, q ≤ D → up (par m) q p ≠ i) → ¬ under m p i := by
    rintro h ⟨n, hn2⟩
    by_cases z : n ≤ D
    · exact h n z hn2
    · have e : up (par m) n p = r := by
        rw [show n = D + (n - D) by omega, up_add, hw.1, up_fix hr]
      exact h D (Nat.le_refl D) (by rw [hw.1, ← hn2, e])
  have key : ∃ x, iter (m_liesIn_l2 (nI i) m) FU (nI p) = some x ∧ ((x = nI i ∧ under m p i) ∨ (x ≠ nI i ∧ ¬ under m p i)) := by
    refine iterN (P := fun w st => ∃ q, st = nI (up (par m) q p) ∧ q + w = D ∧ ∀ q', q' < q → up (par m) q' p ≠ i) ?_ FU D _ ⟨0, rfl, by omega, fun q' h => by omega⟩ (by show D < 1000; omega)
    rintro w st ⟨q, rfl, h1, h3⟩
    obtain ⟨q1, q2, q3⟩ := hw.2 q (by omega)
    obtain ⟨p1, p2, p3, p4, p5⟩ := rP_par (rN_P (hn _ q1) q2) q1
    rw [m_liesIn_l2]
    by_cases g : up (par m) q p = i
    · left
      rw [g, if_pos rfl]
      exact ⟨_, rfl, Or.inl ⟨rfl, q, g⟩⟩
    · have g2 : nI (up (par m) q p) ≠ nI i := fun z => g ((nI_eq (by omega) (by omega)).mp z)
      rw [if_neg g2, gB q1 (by decide), gB q1 (by decide), clI (by omega), p2]
      by_cases e : q = D
      · left
        rw [if_pos (by rw [e, hw.1, hr])]
        refine ⟨_, rfl, Or.inr ⟨g2, hno fun q' hq' => ?_⟩⟩
        by_cases z : q' = q
        · rw [z]; exact g
        · exact h3 q' (by omega)
      · right
        rw [if_neg (fun z => q3 (by omega) ((nI_eq (by omega) (by omega)).mp z))]
        refine ⟨_, w - 1, by omega, rfl, q + 1, by rw [up_succ], by omega, fun q' hq' => ?_⟩
        by_cases z : q' = q
        · rw [z]; exact g
        · exact h3 q' (by omega)
  obtain ⟨x, e, k⟩ := key
  rw [m_liesIn, e, Option.bind_some]
  rcases k with ⟨k1, k⟩ | ⟨k1, k⟩
  · rw [if_pos k1]
    exact ⟨1, rfl, Or.inl ⟨rfl, k⟩⟩
  · rw [if_neg k1]
    exact ⟨0, rfl, Or.inr ⟨rfl, k⟩⟩
