/-! end -/
def npD (h : Hp) : Hp := (fun a s => if a = (25, 0) then 0 else h.1 a s, h.2.1, h.2.2.1, h.2.2.2)
theorem npD_25 {h : Hp} {s : Nat} {v : Int32} : npD (sI h (25, 0) s v) = npD h := by
  unfold npD sI
  simp only [Prod.mk.injEq, and_true]
  funext a s'
  by_cases q : a = (25, 0)
  · rw [if_pos q, if_pos q]
  · rw [if_neg q, if_neg q, if_neg (fun z => q z.1)]
theorem npD_lo {m m' : Hp} (e : npD m' = npD m) : loP m' = loP m := by
  have k : ∀ h, loP (npD h) = loP h := fun h => by
    unfold loP npD
    simp only [Prod.mk.injEq, and_true]
    funext a s
    by_cases q : a.1 < 20
    · rw [if_pos q, if_pos q, if_neg]
      rintro rfl
      exact absurd q (by decide)
    · rw [if_neg q, if_neg q]
  rw [← k m', ← k m, e]
theorem npD_I {c c' : Hp} (h : npD c' = npD c) {a : Ad} {s : Nat} (hne : ¬ (a = (25, 0))) : gI c' a s = gI c a s := by
  have e : gI (npD c') a s = gI (npD c) a s := by rw [h]
  have k : ∀ h, gI (npD h) a s = gI h a s := fun h => if_neg hne
  rw [k, k] at e
  exact e
theorem npD_L {c c' : Hp} (h : npD c' = npD c) (a : Ad) (s : Nat) : gL c' a s = gL c a s := by
  have e : gL (npD c') a s = gL (npD c) a s := by rw [h]
  exact e
theorem copy_m {m : Hp} {t kz p : Nat} (ht : t < 24) (hk : kz + p ≤ 32) : ∃ x, iter (m_end_l136 (nI p) (nI kz) (nI t)) FU ((0 : Int32), m) = some x ∧ npD x.2 = npD m ∧ ∀ s, gI x.2 (25, 0) s = if 32 * t + kz ≤ s ∧ s < 32 * t + kz + p then gI m (31, 0) (s - (32 * t + kz)) else gI m (25, 0) s := by
  refine iterN (P := fun w st => ∃ i m', i + w = p ∧ st = (nI i, m') ∧ npD m' = npD m ∧ ∀ s, gI m' (25, 0) s = if 32 * t + kz ≤ s ∧ s < 32 * t + kz + i then gI m (31, 0) (s - (32 * t + kz)) else gI m (25, 0) s) ?_ FU p _ ⟨0, m, by omega, rfl, rfl, fun s => by rw [if_neg (fun z => by omega)]⟩ (by show p < 1000; omega)
  rintro w st ⟨i, m', h1, rfl, em, h2⟩
  have ei : (nI p ≤ nI i) = (p ≤ i) := nle (by omega) (by omega)
  have e32 : ((32 : Int32) * nI t + nI kz) + nI i = nI (32 * t + kz + i) := by rw [show (32 : Int32) = nI 32 from rfl, nI_mul, nI_add, nI_add]
  rw [m_end_l136]
  simp only [ei]
  by_cases g : p ≤ i
  · left
    rw [if_pos g]
    exact ⟨_, rfl, em, by rw [show p = i by omega]; exact h2⟩
  · right
    rw [if_neg g, e32, gB (by omega) (by decide), gB (by omega) (by decide), clI (by omega), clI (by omega), nI_1]
    refine ⟨_, w - 1, by omega, rfl, i + 1, _, by omega, rfl, by rw [npD_25, em], fun s => ?_⟩
    show (if (25, 0) = ((25, 0) : Ad) ∧ s = 32 * t + kz + i then gI m' (31, 0) i else gI m' (25, 0) s) = _
    by_cases e : s = 32 * t + kz + i
    · rw [if_pos ⟨rfl, e⟩, if_pos ⟨by omega, by omega⟩, npD_I em (by decide), e, show 32 * t + kz + i - (32 * t + kz) = i by omega]
    · rw [if_neg (fun z => e z.2), h2 s]
      by_cases q : 32 * t + kz ≤ s ∧ s < 32 * t + kz + i
      · rw [if_pos q, if_pos ⟨q.1, by omega⟩]
      · rw [if_neg q, if_neg (fun z => q ⟨z.1, by omega⟩)]
def QE (n : Nat) (c m : Hp) : Prop := rLine c m n ∧ rSt c m ∧ rNs c m ∧ rD m ∧ rAcc c m ∧ rLog c m ∧ rMem c m
theorem fill_Q {n : Nat} {c m m2 : Hp} {t kz p z : Nat} (h : QE n c m) (ht : t < 24) (h2 : gI m (21, 0) t = 2) (hz1 : gI c (5, t) 1 = nI z) (hz2 : gI m (24, 0) t = nI z) (hz3 : z ≤ 32) (hkz : kz ≤ z) (hk : kz + p ≤ 32) (hd : ∀ j, j < p → gI c (13, 0) j = gI m (31, 0) j ∧ isB (gI m (31, 0) j)) (em : npD m2 = npD m) (e25 : ∀ s, gI m2 (25, 0) s = if 32 * t + kz ≤ s ∧ s < 32 * t + kz + p then gI m (31, 0) (s - (32 * t + kz)) else gI m (25, 0) s) : QE n (sI (cpI c (13, 0) (6, t) 0 kz p) (5, t) 1 (nI (kz + p))) (sI m2 (24, 0) t (nI (kz + p))) := by
  obtain ⟨hl, hs, hn, hdd, ha, hg, he⟩ := h
  have hq : rLine c m2 n ∧ rSt c m2 ∧ rD m2 ∧ rAcc c m2 ∧ rLog c m2 ∧ rMem c m2 := by
    have h1 : rLine c (npD m) n ∧ rSt c (npD m) ∧ rD (npD m) ∧ rAcc c (npD m) ∧ rLog c (npD m) ∧ rMem c (npD m) := ⟨hl, hs, hdd, ha, hg, he⟩
    rw [← em] at h1
    exact h1
  obtain ⟨q1, q2, q3, q4, q5, q6⟩ := hq
  refine ⟨q1, q2, ?_, q3, q4, q5, q6⟩
  generalize ec : sI (cpI c (13, 0) (6, t) 0 kz p) (5, t) 1 (nI (kz + p)) = c'
  generalize em' : sI m2 (24, 0) t (nI (kz + p)) = m'
  have m21 : ∀ j, gI m' (21, 0) j = gI m (21, 0) j := fun j => by
    rw [← em']
    exact npD_I em (by decide)
  have m22 : ∀ j, gI m' (22, 0) j = gI m (22, 0) j := fun j => by
    rw [← em']
    exact npD_I em (by decide)
  have m23 : ∀ j, gL m' (23, 0) j = gL m (23, 0) j := fun j => by
    rw [← em']
    exact npD_L em _ _
  have m24 : ∀ j, j ≠ t → gI m' (24, 0) j = gI m (24, 0) j := fun j hj => by
    rw [← em']
    show (if (24, 0) = ((24, 0) : Ad) ∧ j = t then nI (kz + p) else gI m2 (24, 0) j) = _
    rw [if_neg (fun q => hj q.2)]
    exact npD_I em (by decide)
  have m24t : gI m' (24, 0) t = nI (kz + p) := by
    rw [← em']
    show (if (24, 0) = ((24, 0) : Ad) ∧ t = t then nI (kz + p) else gI m2 (24, 0) t) = _
    rw [if_pos ⟨rfl, rfl⟩]
  have m25 : ∀ s, gI m' (25, 0) s = if 32 * t + kz ≤ s ∧ s < 32 * t + kz + p then gI m (31, 0) (s - (32 * t + kz)) else gI m (25, 0) s := fun s => by
    rw [← em']
    exact e25 s
  have cR : ∀ x s, gR c' x s = gR c x s := fun x s => by rw [← ec]; rfl
  have cL : ∀ x s, gL c' x s = gL c x s := fun x s => by rw [← ec]; rfl
  have hP : ∀ j, rP c m j → rP c' m' j := fun j hp => rP_keep hp (cR _ _) (m22 j) (m21 j) (cL _ _) (m23 j) fun x _ _ _ hx => by rw [m21]; exact hx
  intro j hj
  by_cases e : j = t
  · subst e
    rcases hn j hj with h | h | ⟨h1, h3, h4, ⟨z', z1, z2, z3, z4⟩, h5⟩
    · rw [h2] at h; exact absurd h.1 (by decide)
    · rw [h2] at h; exact absurd h.1 (by decide)
    · have hzz : z' = z := by
        rw [hz1] at z2
        exact ((nI_eq (by omega) (by omega)).mp z2).symm
      subst hzz
      have c2 : gI c' (5, j) 2 = 1 := by rw [← ec]; simp [gI_sI, gI_cpI, h3]
      have c3 : gI c' (5, j) 3 = 0 := by rw [← ec]; simp [gI_sI, gI_cpI, h4]
      have c1 : gI c' (5, j) 1 = nI (kz + p) := by rw [← ec]; simp [gI_sI]
      have c6 : ∀ s, gI c' (6, j) s = if kz ≤ s ∧ s < kz + p then gI c (13, 0) (s - kz) else gI c (6, j) s := fun s => by rw [← ec]; simp [gI_sI, gI_cpI]
      refine Or.inr (Or.inr ⟨by rw [m21, h1], c2, c3, ⟨kz + p, hk, c1, m24t, fun s hs => ?_⟩, hP j h5⟩)
      rw [c6 s, m25]
      by_cases q : kz ≤ s
      · obtain ⟨d1, d2⟩ := hd (s - kz) (by omega)
        rw [if_pos ⟨q, hs⟩, if_pos ⟨by omega, by omega⟩, show 32 * j + s - (32 * j + kz) = s - kz by omega]
        exact ⟨d1, d2⟩
      · rw [if_neg (fun w => q w.1), if_neg (fun w => by omega)]
        exact z4 s (by omega)
  · refine rN_keep (hn j hj) (m21 j) ?_ ?_ ?_ (m24 j e) (fun s hs => ?_) (fun s hs => ?_) fun _ hp => hP j hp
    · rw [← ec]; simp [gI_sI, gI_cpI, e]
    · rw [← ec]; simp [gI_sI, gI_cpI]
    · rw [← ec]; simp [gI_sI, gI_cpI]
    · rw [← ec]; simp [gI_sI, gI_cpI, e]
    · rw [m25, if_neg (fun w => by omega)]
theorem fin_Y {n : Nat} {c m : Hp} {r : Int32} (h : QE n c m) (m28 : gI m (20, 0) 28 = 0) (m25 : gI m (20, 0) 25 = 0) (hr : r ≠ 257 ∧ r ≠ 213) : Rel (drp (sI c (0, 0) 9 r)) (sI (sI m (20, 0) 13 r) (20, 0) 14 (0 : Int32)) := by
  obtain ⟨hl, ⟨s1, s2, s3, s4⟩, hn, hd, ha, hg, he⟩ := h
  exact ⟨⟨n, hl⟩, ⟨s1, rfl, s3, s4⟩, ⟨0, by decide, rfl, m25, fun q => by cases q⟩, Or.inr ⟨hr.1, hr.2, rfl⟩, hn, hd, ha, hg, he, m28.symm, Or.inl ⟨m28, rfl, rfl⟩⟩
def QT (n : Nat) (c m : Hp) : Prop := QE n c m ∧ gI c (12, 0) 7 = gI m (20, 0) 33 ∧ r01 (gI m (20, 0) 33) ∧ rPl c m
theorem QT_C {n : Nat} {c c' m m' : Hp} (h : QT n c m) (ec : npC c' = npC c) (em : npL m' = npL m) : QT n c' m' := by
  have h1 : QT n (npC c) (npL m) := h
  rw [← ec, ← em] at h1
  exact h1
theorem okA_of {kz p : Nat} (h : kz + p ≤ 32) : okA (0 : Int32) 192 (nI kz) 32 (nI p) = true := by
  unfold okA
  simp only [Bool.and_eq_true, decide_eq_true_eq, clI (show kz < 2 ^ 31 by omega), clI (show p < 2 ^ 31 by omega), show (0 : Int32).toNatClampNeg = 0 from rfl]
  exact ⟨⟨⟨⟨by decide, nI_pos (by omega)⟩, nI_pos (by omega)⟩, by omega⟩, by omega⟩
theorem guardA_ok {A : Type} {kz p : Nat} (h : kz + p ≤ 32) (o : Option A) : guardA (0 : Int32) 192 (nI kz) 32 (nI p) o = o := by
  unfold guardA
  rw [if_pos (okA_of h)]
