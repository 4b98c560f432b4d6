/-! reading a path -/
def npP (h : Hp) : Hp := (fun a s => if a.1 = 8 ∨ a.1 = 9 then 0 else h.1 a s, fun a s => if a.1 = 8 ∨ a.1 = 9 then 0 else h.2.1 a s, fun a s => if a.1 = 8 ∨ a.1 = 9 then none else h.2.2.1 a s, h.2.2.2)
theorem np_hi {c c' : Hp} (e : npP c' = npP c) : hiP c' = hiP c := by
  have k : ∀ h, hiP (npP h) = hiP h := fun h => by
    unfold hiP npP
    simp only [Prod.mk.injEq, and_true]
    refine ⟨?_, ?_, ?_⟩
    all_goals
      funext a s
      by_cases q : a.1 < 20
      · rw [if_pos q, if_pos q]
      · rw [if_neg q, if_neg q, if_neg (by omega)]
  rw [← k c', ← k c, e]
theorem Rel_np {c c' m : Hp} (h : Rel c m) (e : npP c' = npP c) : Rel c' m := by
  have h1 : Rel (npP c) m := h
  rw [← e] at h1
  exact h1
theorem np_sI {h : Hp} {t i s : Nat} {v : Int32} (ht : t = 8 ∨ t = 9) : npP (sI h (t, i) s v) = npP h := by
  unfold npP sI
  simp only [Prod.mk.injEq, and_true]
  funext a s'
  by_cases q : a.1 = 8 ∨ a.1 = 9
  · rw [if_pos q, if_pos q]
  · rw [if_neg q, if_neg q, if_neg]
    rintro ⟨rfl, -⟩
    exact q ht
theorem np_sL {h : Hp} {t i s : Nat} {v : Int64} (ht : t = 8 ∨ t = 9) : npP (sL h (t, i) s v) = npP h := by
  unfold npP sL
  simp only [Prod.mk.injEq, and_true, true_and]
  funext a s'
  by_cases q : a.1 = 8 ∨ a.1 = 9
  · rw [if_pos q, if_pos q]
  · rw [if_neg q, if_neg q, if_neg]
    rintro ⟨rfl, -⟩
    exact q ht
theorem np_sR {h : Hp} {t i s : Nat} {v : Option Nat} (ht : t = 8 ∨ t = 9) : npP (sR h (t, i) s v) = npP h := by
  unfold npP sR
  simp only [Prod.mk.injEq, and_true, true_and]
  funext a s'
  by_cases q : a.1 = 8 ∨ a.1 = 9
  · rw [if_pos q, if_pos q]
  · rw [if_neg q, if_neg q, if_neg]
    rintro ⟨rfl, -⟩
    exact q ht
theorem rLine_np {c c' m : Hp} {n : Nat} (h : rLine c m n) (e : npP c' = npP c) : rLine c' m n := by
  have h1 : rLine (npP c) m n := h
  rw [← e] at h1
  exact h1
theorem rNs_np {c c' m : Hp} (h : rNs c m) (e : npP c' = npP c) : rNs c' m := by
  have h1 : rNs (npP c) m := h
  rw [← e] at h1
  exact h1
/-- the next '/' from q on, or n -/
def ep (m : Hp) (n q : Nat) : Nat := q + fp (fun j => decide (chs m q j = 47)) (n - q)
theorem ep_le {m : Hp} {n q : Nat} (h : q ≤ n) : q ≤ ep m n q ∧ ep m n q ≤ n := by
  have := fp_le (fun j => decide (chs m q j = 47)) (n - q)
  unfold ep
  omega
theorem ep_ge {m : Hp} {n q : Nat} : q ≤ ep m n q := Nat.le_add_right _ _
theorem ep_at {m : Hp} {n q : Nat} (h : ep m n q < n) (hq : q ≤ n) : chN m (ep m n q) = 47 := by
  have := fp_at (p := fun j => decide (chs m q j = 47)) (n := n - q) (by unfold ep at h; omega)
  exact of_decide_eq_true this
theorem ep_bf {m : Hp} {n q p : Nat} (h1 : q ≤ p) (h2 : p < ep m n q) : chN m p ≠ 47 := by
  have := fp_lt (p := fun j => decide (chs m q j = 47)) (n := n - q) (j := p - q) (by unfold ep at h2; omega)
  have y2 : ¬ chN m (q + (p - q)) = 47 := of_decide_eq_false this
  rwa [show q + (p - q) = p by omega] at y2
theorem ep_of {m : Hp} {n q p : Nat} (h1 : q ≤ p) (hp : p ≤ n) (h2 : ∀ j, q ≤ j → j < p → chN m j ≠ 47) (h3 : p < n → chN m p = 47) : ep m n q = p := by
  have : fp (fun j => decide (chs m q j = 47)) (n - q) = p - q := fp_eq (by omega) (fun j hj => decide_eq_false (h2 _ (by omega) (by omega))) (fun hj => by
    have := h3 (by omega)
    refine decide_eq_true ?_
    show chN m (q + (p - q)) = 47
    rw [show q + (p - q) = p by omega]
    exact this)
  unfold ep
  omega
def sp (m : Hp) (n f : Nat) : Nat → Nat
  | 0 => f
  | k + 1 => ep m n (sp m n f k) + 1
def pV (m : Hp) (n f k : Nat) : Nat := NV (chs m (sp m n f k)) (ep m n (sp m n f k) - sp m n f k)
theorem sp_step {m : Hp} {n f k : Nat} : sp m n f k < sp m n f (k + 1) := by
  have := ep_ge (m := m) (n := n) (q := sp m n f k)
  rw [sp]
  omega
theorem sp_mono {m : Hp} {n f : Nat} : ∀ {k j : Nat}, j ≤ k → sp m n f j + (k - j) ≤ sp m n f k
  | 0, j, h => by rw [show j = 0 by omega]; omega
  | k + 1, j, h => by
    have := sp_step (m := m) (n := n) (f := f) (k := k)
    by_cases e : j = k + 1
    · rw [e]; omega
    · have := sp_mono (m := m) (n := n) (f := f) (k := k) (j := j) (by omega)
      omega
theorem NV_ne {b : Nat → Nat} {n : Nat} (h : NV b n ≠ 0) : 1 ≤ n ∧ n ≤ 6 ∧ okn b n = true := by
  unfold NV at h
  by_cases q : n ≤ 6 ∧ okn b n = true
  · refine ⟨?_, q⟩
    rw [if_pos q] at h
    by_cases z : n = 0
    · rw [z] at h; exact absurd rfl h
    · omega
  · rw [if_neg q] at h; exact absurd rfl h
theorem nmv_pos {b : Nat → Nat} : ∀ {n : Nat}, 1 ≤ n → okn b n = true → 0 < nmv b n
  | 0, h, _ => by omega
  | n + 1, _, h => by
    have h1 := okn_iff.mp h 0 (by omega)
    have h2 := sg_ne h1
    by_cases z : n = 0
    · subst z
      rw [nmv, nmv]
      have : 0 < b 0 * 2 ^ (40 - 8 * 0) := Nat.mul_pos (by omega) (Nat.two_pow_pos _)
      omega
    · have := nmv_pos (b := b) (n := n) (by omega) (okn_iff.mpr fun j hj => okn_iff.mp h j (by omega))
      rw [nmv]
      omega
theorem NV_of {b : Nat → Nat} {n : Nat} (h1 : 1 ≤ n) (h2 : n ≤ 6) (h3 : okn b n = true) : NV b n ≠ 0 := by
  have := nmv_pos h1 h3
  unfold NV
  rw [if_pos ⟨h2, h3⟩]
  omega
theorem pV_len {m : Hp} {n f k : Nat} (h : pV m n f k ≠ 0) : sp m n f k + 2 ≤ sp m n f (k + 1) := by
  have := (NV_ne h).1
  rw [sp]
  omega
theorem pV_all {m : Hp} {n f : Nat} : ∀ {k : Nat}, (∀ j, j < k → pV m n f j ≠ 0) → f + 2 * k ≤ sp m n f k
  | 0, _ => by rw [sp]; omega
  | k + 1, h => by
    have h1 := pV_all (m := m) (n := n) (f := f) (k := k) fun j hj => h j (by omega)
    have h2 := pV_len (h k (by omega))
    omega
theorem chs_b {c m : Hp} {n s e : Nat} (h : rLine c m n) (he : e ≤ n) : ∀ j, j < e - s → chs m s j < 256 := fun j hj => by
  have := ch_b h (show s + j < n by omega)
  show chN m (s + j) < 256
  omega
theorem addPart_no {h : Hp} : path_addPart 0 h = some (0, h) := by
  rw [path_addPart, if_pos rfl]
theorem addPart_ok {h : Hp} {x k : Nat} (hx : x ≠ 0) (hx2 : x < 2 ^ 48) (hk : gI h (8, 0) 1 = nI k) (h16 : k < 16) : path_addPart (lN x) h = some (1, sI (sL h (9, 0) k (lN x)) (8, 0) 1 (nI (k + 1))) := by
  have c2 : ¬ lN x = (0 : Int64) := fun q => hx ((lN_inj (b := 0) (by omega) (by decide)).mp q)
  have e1 : (nI k < (16 : Int32)) = (k < 16) := nlt (k := 16) (by decide) (by omega)
  rw [path_addPart, if_neg c2, hk]
  simp only [e1]
  rw [if_pos h16, gB h16 (by decide), clI (by omega)]
  have : gI (sL h (9, 0) k (lN x)) (8, 0) 1 = nI k := hk
  rw [this, nI_1]
/-- what the path holds once M parts were read -/
def PH (c m : Hp) (n f M : Nat) : Prop := gI c (8, 0) 1 = nI M ∧ ∀ k, k < M → gL c (9, 0) k = lN (pV m n f k)
theorem PH_add {c m : Hp} {n f M : Nat} (h : PH c m n f M) : PH (sI (sL c (9, 0) M (lN (pV m n f M))) (8, 0) 1 (nI (M + 1))) m n f (M + 1) := by
  refine ⟨rfl, fun k hk => ?_⟩
  show (if (9, 0) = ((9, 0) : Ad) ∧ k = M then lN (pV m n f M) else gL c (9, 0) k) = _
  by_cases e : k = M
  · rw [if_pos ⟨rfl, e⟩, e]
  · rw [if_neg (fun z => e z.2)]
    exact h.2 k (by omega)
theorem read_loop {c m y : Hp} {n f : Nat} (h : rLine c m n) (hy : npP y = npP c) (h0 : gI y (8, 0) 1 = 0) (hf1 : 1 ≤ f) (hf : f ≤ n) : ∃ x, iter (path_read_l46 (nI n)) FU (nI f, nI f, y) = some x ∧ ((∃ c' k, x = .inl (0, c') ∧ npP c' = npP c ∧ sp m n f k < n ∧ pV m n f k = 0) ∨ (∃ c' k, x = .inr (nI (sp m n f k), nI n, c') ∧ npP c' = npP c ∧ gI c' (8, 0) 2 = gI y (8, 0) 2 ∧ (∀ j, j < k → sp m n f j < n ∧ pV m n f j ≠ 0) ∧ PH c' m n f k ∧ sp m n f k ≤ n ∧ (sp m n f k < n → ep m n (sp m n f k) = n))) := by
  obtain ⟨l1, l2, l3, l4⟩ := id h
  refine iterN (P := fun w st => ∃ c' k p, st = (nI (sp m n f k), nI p, c') ∧ p + w = n ∧ sp m n f k ≤ p ∧ (∀ j, sp m n f k ≤ j → j < p → chN m j ≠ 47) ∧ npP c' = npP c ∧ gI c' (8, 0) 2 = gI y (8, 0) 2 ∧ (∀ j, j < k → sp m n f j < n ∧ pV m n f j ≠ 0) ∧ PH c' m n f k) ?_ FU (n - f) _ ⟨y, 0, f, rfl, by omega, Nat.le_refl _, (fun j a b => by rw [sp] at a; omega), hy, rfl, (fun j hj => by omega), h0, fun k hk => by omega⟩ (by show n - f < 1000; omega)
  rintro w st ⟨c', k, p, rfl, h1, h2, h3, h4, h5, h6, h7⟩
  have hl' := rLine_np h h4
  rw [path_read_l46]
  by_cases g : n ≤ p
  · left
    rw [if_pos (by rw [nle (by omega) (by omega)]; omega)]
    refine ⟨_, rfl, Or.inr ⟨c', k, by rw [show p = n by omega], h4, h5, h6, h7, by omega, fun hh => ?_⟩⟩
    exact ep_of (by omega) (Nat.le_refl _) (fun j a b => h3 j a (by omega)) (fun z => by omega)
  · have b := ch_b h (show p < n by omega)
    rw [if_neg (by rw [nle (by omega) (by omega)]; omega), line_at_in hl' (by omega), Option.bind_some]
    have e6 : (nI (chN m p) = (47 : Int32)) = (chN m p = 47) := neq (k := 47) (by decide) (by omega)
    simp only [e6]
    by_cases z : chN m p = 47
    · have he : ep m n (sp m n f k) = p := ep_of h2 (by omega) h3 (fun _ => z)
      have hv : NV (chs m (sp m n f k)) (p - sp m n f k) = pV m n f k := by unfold pV; rw [he]
      have hlt : pV m n f k < 2 ^ 48 := NV_lt (by rw [he]; exact chs_b h (by omega))
      rw [if_pos z, partOfLine_eq hl' h2 (by omega), Option.bind_some, hv]
      by_cases v0 : pV m n f k = 0
      · left
        rw [v0, show lN 0 = 0 from rfl, addPart_no, Option.bind_some, if_pos rfl]
        exact ⟨_, rfl, Or.inl ⟨c', k, rfl, h4, by omega, v0⟩⟩
      · right
        have h8 := pV_all (m := m) (n := n) (f := f) fun j hj => (h6 j hj).2
        rw [addPart_ok v0 hlt h7.1 (by omega), Option.bind_some, if_neg (show ¬ (1 : Int32) = 0 by decide), nI_1]
        refine ⟨_, w - 1, by omega, rfl, sI (sL c' (9, 0) k (lN (pV m n f k))) (8, 0) 1 (nI (k + 1)), k + 1, p + 1, ?_, by omega, ?_, ?_, ?_, h5, ?_, PH_add h7⟩
        · rw [sp, he]
        · rw [sp, he]; exact Nat.le_refl _
        · intro j a b
          rw [sp, he] at a
          omega
        · rw [np_sI (Or.inl rfl), np_sL (Or.inr rfl)]; exact h4
        · intro j hj
          by_cases e : j = k
          · rw [e]; exact ⟨by omega, v0⟩
          · exact h6 j (by omega)
    · right
      rw [if_neg z, nI_1]
      refine ⟨_, w - 1, by omega, rfl, c', k, p + 1, rfl, by omega, by omega, ?_, h4, h5, h6, h7⟩
      intro j a b
      by_cases e : j = p
      · rw [e]; exact z
      · exact h3 j a (by omega)
/-- where the first part begins -/
def fst0 (m : Hp) (a : Nat) : Nat := if chN m a = 47 then a + 1 else a
def PM (m : Hp) (n f M : Nat) : Prop := (∀ j, j < M → sp m n f j < n ∧ pV m n f j ≠ 0) ∧ n ≤ sp m n f M
theorem argStart_eq {c m : Hp} {n : Nat} (h : rLine c m n) : line_argumentStart c = some (nI (cl m n + 1)) := by
  rw [line_argumentStart, cmdLen_eq h, Option.bind_some, nI_1]
theorem pathRead_eq {c m : Hp} {n : Nat} (h : rLine c m n) (ha : cl m n + 1 < n) : ∃ r c', path_read c = some (r, c') ∧ npP c' = npP c ∧ ((r = 1 ∧ gI c' (8, 0) 2 = (if chN m (cl m n + 1) = 47 then 1 else 0) ∧ ∃ M, PM m n (fst0 m (cl m n + 1)) M ∧ PH c' m n (fst0 m (cl m n + 1)) M ∧ gI c' (8, 0) 3 = (if 0 < M ∧ sp m n (fst0 m (cl m n + 1)) M = n then 1 else 0)) ∨ (r = 0 ∧ ∃ j, sp m n (fst0 m (cl m n + 1)) j < n ∧ pV m n (fst0 m (cl m n + 1)) j = 0)) := by
  obtain ⟨l1, l2, l3, l4⟩ := id h
  have hs : npP (sI (sI (sI c (8, 0) 1 (0 : Int32)) (8, 0) 2 (0 : Int32)) (8, 0) 3 (0 : Int32)) = npP c := by
    rw [np_sI (Or.inl rfl), np_sI (Or.inl rfl), np_sI (Or.inl rfl)]
  have hl := rLine_np h hs
  have b := ch_b h ha
  have e6 : (nI (chN m (cl m n + 1)) = (47 : Int32)) = (chN m (cl m n + 1) = 47) := neq (k := 47) (by decide) (by omega)
  generalize hy1 : sI (sI (sI c (8, 0) 1 (0 : Int32)) (8, 0) 2 (0 : Int32)) (8, 0) 3 (0 : Int32) = y1 at hs hl
  have y10 : gI y1 (8, 0) 1 = 0 := by rw [← hy1]; rfl
  have hst : path_stay c = some y1 := by rw [path_stay, hy1]
  rw [path_read, hst, Option.bind_some, argStart_eq hl, Option.bind_some, line_length, hl.2.1, Option.bind_some, line_at_in hl ha, Option.bind_some]
  simp only [e6]
  have ef : (if chN m (cl m n + 1) = 47 then some (1 : Int32) else some 0) = some (if chN m (cl m n + 1) = 47 then (1 : Int32) else 0) := by split <;> rfl
  rw [ef, Option.bind_some, gZi]
  generalize hy2 : sI y1 (8, 0) 2 (if chN m (cl m n + 1) = 47 then (1 : Int32) else 0) = y2
  have y21 : gI y2 (8, 0) 1 = 0 := by rw [← hy2]; exact y10
  have y22 : gI y2 (8, 0) 2 = if chN m (cl m n + 1) = 47 then (1 : Int32) else 0 := by rw [← hy2]; rfl
  have ny2 : npP y2 = npP c := by rw [← hy2, np_sI (Or.inl rfl)]; exact hs
  have es : (if gI y2 (8, 0) 2 = 0 then some (nI (cl m n + 1)) else some (nI (cl m n + 1) + 1)) = some (nI (fst0 m (cl m n + 1))) := by
    rw [y22, fst0]
    by_cases q : chN m (cl m n + 1) = 47
    · rw [if_pos q, if_pos q, if_neg (by decide), nI_1]
    · rw [if_neg q, if_neg q, if_pos rfl]
  rw [es, Option.bind_some]
  have hf : cl m n + 1 ≤ fst0 m (cl m n + 1) ∧ fst0 m (cl m n + 1) ≤ n := by unfold fst0; split <;> omega
  generalize fst0 m (cl m n + 1) = f at hf
  obtain ⟨x, ex, hx⟩ := read_loop h ny2 y21 (by omega) hf.2
  rw [ex, Option.bind_some]
  rcases hx with ⟨c', k, rfl, q1, q2, q3⟩ | ⟨c', k, rfl, q1, q2, q3, q4, q5, q6⟩
  · exact ⟨0, c', rfl, q1, Or.inr ⟨rfl, k, q2, q3⟩⟩
  · have hk := pV_all (m := m) (n := n) (f := f) fun j hj => (q3 j hj).2
    have e1 : (nI k ≤ 0) = (k = 0) := propext ⟨fun z => by
      by_cases w : k = 0
      · exact w
      · exact absurd z (nI_nle (by omega) (by omega)), fun z => by rw [z]; decide⟩
    show ∃ r c'_1, ((if gI c' (8, 0) 1 ≤ 0 then some (0 : Int32) else if nI (sp m n f k) = nI n then some 1 else some 0).bind fun t18 => guardZ t18 <| (if nI (sp m n f k) = nI n then some ((1 : Int32), (sI c' (8, 0) 3 t18)) else (name_partOfLine (nI (sp m n f k)) (nI n) (sI c' (8, 0) 3 t18)).bind fun y23 => (path_addPart y23 (sI c' (8, 0) 3 t18)).bind fun y24 => if y24.1 = 0 then some ((0 : Int32), y24.2) else some ((1 : Int32), y24.2)).bind fun t22 => guardZ t22.1 <| some (t22.1, t22.2)) = some (r, c'_1) ∧ _
    simp only [q4.1, e1, neq (show n < 2 ^ 31 by omega) (show sp m n f k < 2 ^ 31 by omega)]
    have et : (if k = 0 then some (0 : Int32) else if sp m n f k = n then some 1 else some 0) = some (if 0 < k ∧ sp m n f k = n then (1 : Int32) else 0) := by
      by_cases w : k = 0
      · rw [if_pos w, if_neg (by omega)]
      · rw [if_neg w]
        by_cases v : sp m n f k = n
        · rw [if_pos v, if_pos ⟨by omega, v⟩]
        · rw [if_neg v, if_neg (fun z => v z.2)]
    rw [et, Option.bind_some, gZi]
    generalize hy3 : sI c' (8, 0) 3 (if 0 < k ∧ sp m n f k = n then (1 : Int32) else 0) = y3
    have y33 : gI y3 (8, 0) 3 = if 0 < k ∧ sp m n f k = n then (1 : Int32) else 0 := by rw [← hy3]; rfl
    have y32 : gI y3 (8, 0) 2 = gI y2 (8, 0) 2 := by rw [← hy3]; exact q2
    have y3n : npP y3 = npP c := by rw [← hy3, np_sI (Or.inl rfl)]; exact q1
    have y3h : PH y3 m n f k := by rw [← hy3]; exact q4
    by_cases v : sp m n f k = n
    · rw [if_pos v]
      refine ⟨1, y3, rfl, y3n, Or.inl ⟨rfl, by rw [y32, y22], k, ⟨q3, by omega⟩, y3h, y33⟩⟩
    · have hl3 := rLine_np h y3n
      have he := q6 (by omega)
      have hv : NV (chs m (sp m n f k)) (n - sp m n f k) = pV m n f k := by unfold pV; rw [he]
      have hlt : pV m n f k < 2 ^ 48 := NV_lt (by rw [he]; exact chs_b h (Nat.le_refl _))
      rw [if_neg v, partOfLine_eq hl3 q5 (Nat.le_refl _), Option.bind_some, hv]
      by_cases v0 : pV m n f k = 0
      · rw [v0, show lN 0 = 0 from rfl, addPart_no]
        exact ⟨0, y3, rfl, y3n, Or.inr ⟨rfl, k, by omega, v0⟩⟩
      · rw [addPart_ok v0 hlt y3h.1 (by omega)]
        refine ⟨1, _, rfl, ?_, Or.inl ⟨rfl, ?_, k + 1, ⟨fun j hj => ?_, ?_⟩, PH_add y3h, ?_⟩⟩
        · rw [np_sI (Or.inl rfl), np_sL (Or.inr rfl)]; exact y3n
        · show gI y3 (8, 0) 2 = _
          rw [y32, y22]
        · by_cases e : j = k
          · rw [e]; exact ⟨by omega, v0⟩
          · exact q3 j (by omega)
        · rw [sp, he]; omega
        · show gI y3 (8, 0) 3 = _
          rw [y33, if_neg (fun z => v z.2), if_neg]
          rw [sp, he]
          omega
