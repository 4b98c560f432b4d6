/-! the place of a path on both sides -/
theorem T_eq {c m : Hp} {n a : Nat} (h : rLine c m n) (ha : a < n) (hf : gI m (20, 0) 11 = nI a) : ∃ T, iter (m_findPlace_l5 m) FU (nI n) = some (nI T) ∧ a ≤ T ∧ T ≤ n ∧ (∀ j, T ≤ j → j < n → chN m j ≠ 47) ∧ (T = a ∨ chN m (T - 1) = 47) := by
  obtain ⟨l1, l2, l3, l4⟩ := id h
  have key : ∃ x, iter (m_findPlace_l5 m) FU (nI n) = some x ∧ ∃ T, x = nI T ∧ a ≤ T ∧ T ≤ n ∧ (∀ j, T ≤ j → j < n → chN m j ≠ 47) ∧ (T = a ∨ chN m (T - 1) = 47) := by
    refine iterN (P := fun w st => ∃ p, st = nI p ∧ p = a + w ∧ p ≤ n ∧ ∀ j, p ≤ j → j < n → chN m j ≠ 47) ?_ FU (n - a) _ ⟨n, rfl, by omega, Nat.le_refl _, fun j x y => by omega⟩ (by show n - a < 1000; omega)
    rintro w st ⟨p, rfl, h1, h2, h3⟩
    rw [m_findPlace_l5, hf]
    by_cases g : p ≤ a
    · left
      rw [if_pos (by rw [nle (by omega) (by omega)]; omega)]
      exact ⟨_, rfl, p, rfl, by omega, h2, h3, Or.inl (by omega)⟩
    · have b := ch_b h (show p - 1 < n by omega)
      have e1 : nI p - 1 = nI (p - 1) := by rw [show (1 : Int32) = nI 1 from rfl, nI_sub (by omega)]
      rw [if_neg (by rw [nle (by omega) (by omega)]; omega), e1, gB (by omega) (by decide), clI (by omega), ch_m h (by omega)]
      have e6 : (nI (chN m (p - 1)) = (47 : Int32)) = (chN m (p - 1) = 47) := neq (k := 47) (by decide) (by omega)
      simp only [e6]
      by_cases z : chN m (p - 1) = 47
      · left
        rw [if_pos z]
        exact ⟨_, rfl, p, rfl, by omega, h2, h3, Or.inr z⟩
      · right
        rw [if_neg z]
        refine ⟨_, w - 1, by omega, rfl, p - 1, rfl, by omega, by omega, fun j x y => ?_⟩
        by_cases e : j = p - 1
        · rw [e]; exact z
        · exact h3 j (by omega) y
  obtain ⟨x, e, T, rfl, h1⟩ := key
  exact ⟨T, e, h1⟩
theorem f_le {m : Hp} {n a : Nat} (ha : a < n) : a ≤ fst0 m a ∧ fst0 m a ≤ n := by
  unfold fst0; split <;> omega
theorem last_ep {m : Hp} {n f M : Nat} (hM : PM m n f M) (h0 : 0 < M) (h1 : sp m n f M ≠ n) : ep m n (sp m n f (M - 1)) = n := by
  obtain ⟨q1, q2⟩ := hM
  have q3 := (q1 (M - 1) (by omega)).1
  have q4 := ep_le (m := m) (show sp m n f (M - 1) ≤ n by omega)
  have q5 : sp m n f M = ep m n (sp m n f (M - 1)) + 1 := by
    rw [show M = (M - 1) + 1 by omega]; rfl
  omega
theorem T_last {m : Hp} {n a M T : Nat} (ha : a < n) (hM : PM m n (fst0 m a) M) (h1 : a ≤ T) (h2 : T ≤ n) (h3 : ∀ j, T ≤ j → j < n → chN m j ≠ 47) (h4 : T = a ∨ chN m (T - 1) = 47) : T = if sp m n (fst0 m a) M = n ∨ M = 0 then n else sp m n (fst0 m a) (M - 1) := by
  have hf := f_le (m := m) ha
  by_cases g : sp m n (fst0 m a) M = n ∨ M = 0
  · rw [if_pos g]
    by_cases q : T = n
    · exact q
    · exfalso
      by_cases M0 : M = 0
      · subst M0
        have hn := hM.2
        rw [sp] at hn
        have : chN m a = 47 := by
          by_cases w : chN m a = 47
          · exact w
          · unfold fst0 at hn; rw [if_neg w] at hn; omega
        unfold fst0 at hn
        rw [if_pos this] at hn
        exact h3 a (by omega) ha this
      · have e : sp m n (fst0 m a) M = n := by
          rcases g with g | g
          · exact g
          · exact absurd g M0
        have q5 : sp m n (fst0 m a) M = ep m n (sp m n (fst0 m a) (M - 1)) + 1 := by
          rw [show M = (M - 1) + 1 by omega]; rfl
        have q3 := (hM.1 (M - 1) (by omega)).1
        have := ep_at (m := m) (n := n) (q := sp m n (fst0 m a) (M - 1)) (by omega) (by omega)
        exact h3 _ (by omega) (by omega) this
  · rw [if_neg g]
    have g1 : sp m n (fst0 m a) M ≠ n := fun z => g (Or.inl z)
    have g2 : M ≠ 0 := fun z => g (Or.inr z)
    have he := last_ep hM (by omega) g1
    have hs := (hM.1 (M - 1) (by omega)).1
    have hno : ∀ j, sp m n (fst0 m a) (M - 1) ≤ j → j < n → chN m j ≠ 47 := fun j x y => ep_bf (n := n) x (by omega)
    have hbf : sp m n (fst0 m a) (M - 1) = a ∨ chN m (sp m n (fst0 m a) (M - 1) - 1) = 47 := by
      by_cases w : M - 1 = 0
      · rw [w, sp]
        by_cases v : chN m a = 47
        · right
          unfold fst0
          rw [if_pos v, Nat.add_sub_cancel]; exact v
        · left
          unfold fst0
          rw [if_neg v]
      · right
        have q5 : sp m n (fst0 m a) (M - 1) = ep m n (sp m n (fst0 m a) (M - 1 - 1)) + 1 := by
          rw [show M - 1 = (M - 1 - 1) + 1 by omega]; rfl
        have q3 := (hM.1 (M - 1 - 1) (by omega)).1
        rw [q5, Nat.add_sub_cancel]
        exact ep_at (by omega) (by omega)
    have hge : a ≤ sp m n (fst0 m a) (M - 1) := by
      have := sp_mono (m := m) (n := n) (f := fst0 m a) (k := M - 1) (j := 0) (by omega)
      rw [sp] at this
      omega
    generalize sp m n (fst0 m a) (M - 1) = s at *
    by_cases q1 : T < s
    · rcases hbf with z | z
      · omega
      · exact absurd z (h3 _ (by omega) (by omega))
    · by_cases q2 : s < T
      · rcases h4 with z | z
        · omega
        · exact absurd z (hno _ (by omega) (by omega))
      · omega
theorem lead_sL {m : Hp} {E : Int32} {v : Int64} : m_lead E (sL m (20, 0) 35 v) = m_lead E m := rfl
theorem wf_pV {c m : Hp} {n f k : Nat} (h : pV m n f k ≠ 0) : wfN (lN (pV m n f k)) := by
  obtain ⟨h1, h2, h3⟩ := NV_ne h
  exact ⟨_, _, h1, h2, h3, by rw [pV, NV, if_pos ⟨h2, h3⟩]⟩
theorem place_eq {c m : Hp} {n a M r : Nat} {root cur o : Option Nat} (h : rLine c m n) (hn : rNs c m) (hr : par m r = r) (ha : a < n) (hf : gI m (20, 0) 11 = nI a) (hM : PM m n (fst0 m a) M) (hro : gI m (20, 0) 16 = on root) (hcu : gI m (20, 0) 17 = on cur) (ho : o = if chN m a = 47 then root else cur) (ok : okN m r o) (hod : drr m o = o) : ∃ nm pin, m_findPlace m = some (if plD m n (fst0 m a) M o = none then 0 else 1, sI (sL m (20, 0) 35 nm) (20, 0) 34 pin) ∧ (plD m n (fst0 m a) M o ≠ none → pin = on (plD m n (fst0 m a) M o) ∧ nm = lN (pV m n (fst0 m a) (M - 1)) ∧ wfN nm) := by
  have hl1 := h.1
  have hfl := f_le (m := m) ha
  obtain ⟨T, eT, t1, t2, t3, t4⟩ := T_eq h ha hf
  have hT := T_last ha hM t1 t2 t3 t4
  have r1 : ∀ (v : Int64) (w : Int32), gL (sI (sL m (20, 0) 35 v) (20, 0) 34 w) (20, 0) 35 = v := fun _ _ => rfl
  have r2 : ∀ (v : Int64) (w : Int32), gI (sI (sL m (20, 0) 35 v) (20, 0) 34 w) (20, 0) 34 = w := fun _ _ => rfl
  have r3 : ∀ (v : Int64) (w : Int32) (j : Nat), gI (sI (sL m (20, 0) 35 v) (20, 0) 34 w) (21, 0) j = gI m (21, 0) j := fun _ _ _ => rfl
  rw [m_findPlace, h.2.2.1, eT, Option.bind_some, nameAt_eq h t2 (Nat.le_refl _), Option.bind_some, lead_sL]
  by_cases g : sp m n (fst0 m a) M = n ∨ M = 0
  · rw [if_pos g] at hT
    have hp : plD m n (fst0 m a) M o = none := by
      unfold plD
      rw [if_pos (by rcases g with z | z; exact Or.inl z; exact Or.inr (Or.inl z))]
    have hle := lead_eq (E := n) (K := M) h hn hr ha hf (Nat.le_refl _) hfl.2 hM.1 hM.2 hro hcu ho ok
    rw [hT, hle, Option.bind_some, Nat.sub_self]
    have e0 : lN (ND (chs m n) 0) = 0 := rfl
    simp only [r1, r2, r3, e0, hp, if_true, ne_eq, not_true_eq_false, false_implies, and_true]
    exact ⟨_, _, rfl⟩
  · rw [if_neg g] at hT
    have g1 : sp m n (fst0 m a) M ≠ n := fun z => g (Or.inl z)
    have g2 : M ≠ 0 := fun z => g (Or.inr z)
    have he := last_ep hM (by omega) g1
    have hs := (hM.1 (M - 1) (by omega))
    have hge : fst0 m a ≤ sp m n (fst0 m a) (M - 1) := by
      have := sp_mono (m := m) (n := n) (f := fst0 m a) (k := M - 1) (j := 0) (by omega)
      rw [sp] at this
      omega
    have hle := lead_eq (E := sp m n (fst0 m a) (M - 1)) (K := M - 1) h hn hr ha hf (by omega) hge (fun j hj => ⟨by
      have := sp_mono (m := m) (n := n) (f := fst0 m a) (k := M - 1) (j := j) (by omega)
      omega, (hM.1 j (by omega)).2⟩) (Nat.le_refl _) hro hcu ho ok
    have hLX : LX m n (fst0 m a) (sp m n (fst0 m a) (M - 1)) o (M - 1) = drr m (Wk m n (fst0 m a) o (M - 1)) := by
      unfold LX
      by_cases z : M - 1 = 0
      · rw [if_pos (Or.inl z), z]
        show o = drr m o
        rw [hod]
      · rw [if_neg (by rintro (y | y); exact z y; exact Nat.lt_irrefl _ y)]
    rw [hT, hle, hLX, Option.bind_some]
    have hnv : NV (chs m (sp m n (fst0 m a) (M - 1))) (n - sp m n (fst0 m a) (M - 1)) = pV m n (fst0 m a) (M - 1) := by
      unfold pV; rw [he]
    have hdots : (dts (chs m (sp m n (fst0 m a) (M - 1))) (n - sp m n (fst0 m a) (M - 1)) = true ∧ n - sp m n (fst0 m a) (M - 1) < 3) ↔ (pV m n (fst0 m a) (M - 1) = 50577534877696 ∨ pV m n (fst0 m a) (M - 1) = 50775103373312) := by
      rw [pV_dot, pV_dots, he]
      constructor
      · rintro ⟨x, y⟩
        by_cases w : n - sp m n (fst0 m a) (M - 1) = 1
        · exact Or.inl ⟨x, w⟩
        · exact Or.inr ⟨x, by omega⟩
      · rintro (x | x)
        · exact ⟨x.1, by omega⟩
        · exact ⟨x.1, by omega⟩
    simp only [r1, r2, r3]
    by_cases d : pV m n (fst0 m a) (M - 1) = 50577534877696 ∨ pV m n (fst0 m a) (M - 1) = 50775103373312
    · have hp : plD m n (fst0 m a) M o = none := by
        unfold plD
        rw [if_pos (Or.inr (Or.inr d))]
      have e0 : ND (chs m (sp m n (fst0 m a) (M - 1))) (n - sp m n (fst0 m a) (M - 1)) = 0 := by
        rw [ND, if_pos (hdots.mpr d)]
      rw [e0]
      have e1 : (lN 0 = (0 : Int64)) := rfl
      simp only [hp, e1, if_true, ne_eq, not_true_eq_false, false_implies, and_true]
      exact ⟨_, _, rfl⟩
    · have hp : plD m n (fst0 m a) M o = drr m (Wk m n (fst0 m a) o (M - 1)) := by
        unfold plD
        rw [if_neg]
        rintro (z | z | z)
        · exact g1 z
        · exact g2 z
        · exact d z
      have e0 : ND (chs m (sp m n (fst0 m a) (M - 1))) (n - sp m n (fst0 m a) (M - 1)) = pV m n (fst0 m a) (M - 1) := by
        rw [ND_NV (fun z => d (hdots.mp z)), hnv]
      have hlt := pV_lt h (show sp m n (fst0 m a) (M - 1) ≤ n by omega)
      have e1 : ¬ lN (pV m n (fst0 m a) (M - 1)) = (0 : Int64) := fun q => hs.2 ((lN_inj (b := 0) (by omega) (by decide)).mp q)
      rw [e0, if_neg e1, hp]
      cases w : drr m (Wk m n (fst0 m a) o (M - 1)) with
      | none =>
        rw [if_pos (by decide), if_pos rfl]
        exact ⟨_, _, rfl, fun z => absurd rfl z⟩
      | some i =>
        obtain ⟨w1, w2⟩ := drr_some w
        obtain ⟨hi, hu, hd⟩ := W_ok (n := n) (f := fst0 m a) hn hr ok (M - 1) i w1
        have c1 : ¬ (some i = (none : Option Nat)) := fun z => by cases z
        rw [on_s, if_neg (nI_pos (by omega)), gB hi (by decide), clI (by omega), if_pos w2, if_neg c1]
        exact ⟨_, _, rfl, fun _ => ⟨rfl, rfl, wf_pV (c := c) hs.2⟩⟩
