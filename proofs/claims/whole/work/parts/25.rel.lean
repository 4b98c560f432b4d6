/-! the relation of the two sides -/
def loP (h : Hp) : Hp := (fun a s => if a.1 < 20 then h.1 a s else 0, fun a s => if a.1 < 20 then h.2.1 a s else 0, fun a s => if a.1 < 20 then h.2.2.1 a s else none, h.2.2.2)
def hiP (h : Hp) : Hp := (fun a s => if a.1 < 20 then 0 else h.1 a s, fun a s => if a.1 < 20 then 0 else h.2.1 a s, fun a s => if a.1 < 20 then none else h.2.2.1 a s, 0)
theorem hiP_sI {h : Hp} {t i s : Nat} {v : Int32} (ht : t < 20) : hiP (sI h (t, i) s v) = hiP h := by
  unfold hiP sI
  simp only [Prod.mk.injEq, and_true]
  funext a s'
  by_cases q : a.1 < 20
  · rw [if_pos q, if_pos q]
  · rw [if_neg q, if_neg q, if_neg]
    rintro ⟨rfl, -⟩
    exact q ht
theorem hiP_sL {h : Hp} {t i s : Nat} {v : Int64} (ht : t < 20) : hiP (sL h (t, i) s v) = hiP h := by
  unfold hiP sL
  simp only [Prod.mk.injEq, and_true, true_and]
  funext a s'
  by_cases q : a.1 < 20
  · rw [if_pos q, if_pos q]
  · rw [if_neg q, if_neg q, if_neg]
    rintro ⟨rfl, -⟩
    exact q ht
theorem hiP_sR {h : Hp} {t i s : Nat} {v : Option Nat} (ht : t < 20) : hiP (sR h (t, i) s v) = hiP h := by
  unfold hiP sR
  simp only [Prod.mk.injEq, and_true, true_and]
  funext a s'
  by_cases q : a.1 < 20
  · rw [if_pos q, if_pos q]
  · rw [if_neg q, if_neg q, if_neg]
    rintro ⟨rfl, -⟩
    exact q ht
theorem hiP_sN {h : Hp} : hiP (sN h) = hiP h := rfl
theorem hiP_cp {h : Hp} {t i t2 i2 a b n : Nat} (ht : t2 < 20) : hiP (cpI h (t, i) (t2, i2) a b n) = hiP h := by
  unfold hiP cpI
  simp only [Prod.mk.injEq, and_true]
  funext x s'
  by_cases q : x.1 < 20
  · rw [if_pos q, if_pos q]
  · rw [if_neg q, if_neg q, if_neg]
    rintro ⟨rfl, -⟩
    exact q ht
theorem loP_sI {h : Hp} {t i s : Nat} {v : Int32} (ht : 20 ≤ t) : loP (sI h (t, i) s v) = loP h := by
  unfold loP sI
  simp only [Prod.mk.injEq, and_true]
  funext a s'
  by_cases q : a.1 < 20
  · rw [if_pos q, if_pos q, if_neg]
    rintro ⟨rfl, -⟩
    exact absurd q (by show ¬ t < 20; omega)
  · rw [if_neg q, if_neg q]
theorem loP_sL {h : Hp} {t i s : Nat} {v : Int64} (ht : 20 ≤ t) : loP (sL h (t, i) s v) = loP h := by
  unfold loP sL
  simp only [Prod.mk.injEq, and_true, true_and]
  funext a s'
  by_cases q : a.1 < 20
  · rw [if_pos q, if_pos q, if_neg]
    rintro ⟨rfl, -⟩
    exact absurd q (by show ¬ t < 20; omega)
  · rw [if_neg q, if_neg q]
def isB (x : Int32) : Prop := ∃ a, a < 256 ∧ x = nI a
def chN (m : Hp) (j : Nat) : Nat := (gI m (29, 0) j).toNatClampNeg
def rLine (c m : Hp) (n : Nat) : Prop := n ≤ 32 ∧ gI c (1, 0) 1 = nI n ∧ gI m (20, 0) 9 = nI n ∧ ∀ j, j < n → gI c (2, 0) j = gI m (29, 0) j ∧ gI m (29, 0) j = nI (chN m j) ∧ 32 ≤ chN m j ∧ chN m j ≤ 126
def r01 (x : Int32) : Prop := x = 0 ∨ x = 1
def rSt (c m : Hp) : Prop := (gI c (0, 0) 8 = gI m (20, 0) 12 ∧ r01 (gI m (20, 0) 12)) ∧ gI c (0, 0) 9 = gI m (20, 0) 13 ∧ (gI c (0, 0) 12 = gI m (20, 0) 18 ∧ r01 (gI m (20, 0) 18)) ∧ gI c (0, 0) 15 = gI m (20, 0) 27
def rWay (c m : Hp) : Prop := ∃ w, w < 4 ∧ gR c (0, 0) 13 = some w ∧ gI m (20, 0) 25 = nI w ∧ (w = 3 → gI c (0, 0) 14 = gI m (20, 0) 26)
def rMsg (c m : Hp) : Prop := ((gI m (20, 0) 13 = 257 ∨ gI m (20, 0) 13 = 213) ∧ ∃ len, len ≤ 168 ∧ gI m (20, 0) 14 = nI len ∧ gI c (10, 0) 1 = nI (168 - len) ∧ ∀ j, j < len → gI c (11, 0) (168 - len + j) = gI m (30, 0) j ∧ isB (gI m (30, 0) j)) ∨ (gI m (20, 0) 13 ≠ 257 ∧ gI m (20, 0) 13 ≠ 213 ∧ gI m (20, 0) 14 = 0)
def wfN (x : Int64) : Prop := ∃ b n, 1 ≤ n ∧ n ≤ 6 ∧ okn b n = true ∧ x = lN (nmv b n)
def rP (c m : Hp) (i : Nat) : Prop := (gR c (5, i) 5 = none ∧ gI m (22, 0) i = nI i ∧ gI m (21, 0) i = 1) ∨ ∃ p, p < 24 ∧ p ≠ i ∧ gR c (5, i) 5 = some p ∧ gI m (22, 0) i = nI p ∧ gI m (21, 0) p = 1 ∧ gL c (5, i) 4 = gL m (23, 0) i ∧ wfN (gL m (23, 0) i)
def rN (c m : Hp) (i : Nat) : Prop := (gI m (21, 0) i = 0 ∧ gI c (5, i) 2 = 0 ∧ gI c (5, i) 1 = 0) ∨ (gI m (21, 0) i = 1 ∧ gI c (5, i) 2 = 1 ∧ gI c (5, i) 3 = 1 ∧ gI c (5, i) 1 = 0 ∧ rP c m i) ∨ (gI m (21, 0) i = 2 ∧ gI c (5, i) 2 = 1 ∧ gI c (5, i) 3 = 0 ∧ (∃ z, z ≤ 32 ∧ gI c (5, i) 1 = nI z ∧ gI m (24, 0) i = nI z ∧ ∀ j, j < z → gI c (6, i) j = gI m (25, 0) (32 * i + j) ∧ isB (gI m (25, 0) (32 * i + j))) ∧ rP c m i)
def rNs (c m : Hp) : Prop := ∀ i, i < 24 → rN c m i
def par (m : Hp) (i : Nat) : Nat := (gI m (22, 0) i).toNatClampNeg
def up (f : Nat → Nat) : Nat → Nat → Nat
  | 0, i => i
  | n + 1, i => up f n (f i)
def under (m : Hp) (i r : Nat) : Prop := ∃ n, up (par m) n i = r
def rD (m : Hp) : Prop := ∃ d : Nat → Nat, ∀ i, i < 24 → gI m (21, 0) i ≠ 0 → d i < 24 ∧ (par m i ≠ i → d (par m i) < d i)
def rA (c m : Hp) (k : Nat) : Prop := gR c (16, 1) k = some k ∧ gL c (15, k) 0 = gL m (26, 0) k ∧ gL c (15, k) 1 = gL m (27, 0) k ∧ gL m (26, 0) k ≠ 0 ∧ (∀ j, j < k → gL m (26, 0) j ≠ gL m (26, 0) k) ∧ ∃ r, r < 24 ∧ gR c (15, k) 2 = some r ∧ gI m (28, 0) k = nI r ∧ gI m (21, 0) r = 1 ∧ gI m (22, 0) r = nI r
def rAcc (c m : Hp) : Prop := ∃ a, a ≤ 4 ∧ gI c (7, 0) 2 = nI a ∧ gI m (20, 0) 5 = nI a ∧ gn c = 74 + (if a = 0 then 0 else a + 1) ∧ gR c (7, 0) 1 = (if a = 0 then some 0 else some 1) ∧ ∀ k, k < a → rA c m k
def rLog (c m : Hp) : Prop := (gR c (0, 0) 10 = none ∧ gI m (20, 0) 16 = -1) ∨ ∃ r q, r < 24 ∧ q < 24 ∧ gR c (0, 0) 10 = some r ∧ gI m (20, 0) 16 = nI r ∧ gR c (0, 0) 11 = some q ∧ gI m (20, 0) 17 = nI q ∧ gI m (21, 0) r = 1 ∧ gI m (22, 0) r = nI r ∧ gI m (21, 0) q = 1 ∧ under m q r
def rRen (m : Hp) (o : Option Nat) (x : Int32) : Prop := (o = none ∧ x = -1) ∨ ∃ i, i < 24 ∧ o = some i ∧ x = nI i ∧ gI m (21, 0) i ≠ 0 ∧ gI m (22, 0) i ≠ nI i
def rMem (c m : Hp) : Prop := gL c (14, 1) 1 = gL m (20, 0) 19 ∧ (∃ z, z < 1000 ∧ gI c (14, 1) 0 = nI z ∧ gI m (20, 0) 21 = nI z) ∧ rRen m (gR c (14, 1) 2) (gI m (20, 0) 20)
def rPl (c m : Hp) : Prop := (∃ t, t < 24 ∧ gR c (12, 0) 4 = some t ∧ gI m (20, 0) 32 = nI t ∧ gI m (21, 0) t = 2) ∨ (gR c (12, 0) 4 = none ∧ gI m (20, 0) 32 = -1 ∧ (∃ p, p < 24 ∧ gR c (12, 0) 5 = some p ∧ gI m (20, 0) 34 = nI p ∧ gI m (21, 0) p = 1) ∧ gL c (12, 0) 6 = gL m (20, 0) 35 ∧ wfN (gL m (20, 0) 35) ∧ ∃ i, i < 24 ∧ gI m (21, 0) i = 0)
def rCar (c m : Hp) : Prop := gI c (12, 0) 1 = gI m (20, 0) 28 ∧ ((gI m (20, 0) 28 = 0 ∧ gI c (12, 0) 2 = 0 ∧ gI c (12, 0) 3 = 0) ∨ (gI m (20, 0) 28 = 1 ∧ gI m (20, 0) 12 = 1 ∧ ∃ len p, len ≤ 192 ∧ p ≤ len ∧ gI c (12, 0) 2 = nI len ∧ gI c (12, 0) 3 = nI p ∧ gI m (20, 0) 30 = nI len ∧ gI m (20, 0) 29 = nI p ∧ ∀ j, j < len → gI c (13, 0) j = gI m (31, 0) j ∧ isB (gI m (31, 0) j)) ∨ (gI m (20, 0) 28 = 2 ∧ gI m (20, 0) 12 = 1 ∧ ∃ len, len ≤ 80 ∧ gI c (12, 0) 2 = nI len ∧ gI m (20, 0) 30 = nI len ∧ (∀ j, j < len → gI c (13, 0) j = gI m (31, 0) j ∧ isB (gI m (31, 0) j)) ∧ gI c (12, 0) 7 = gI m (20, 0) 33 ∧ r01 (gI m (20, 0) 33) ∧ rPl c m))
def Rel (c m : Hp) : Prop := (∃ n, rLine c m n) ∧ rSt c m ∧ rWay c m ∧ rMsg c m ∧ rNs c m ∧ rD m ∧ rAcc c m ∧ rLog c m ∧ rMem c m ∧ rCar c m
theorem Rel_m {c m m' : Hp} (h : Rel c m) (e : hiP m' = hiP m) : Rel c m' := by
  have h1 : Rel c (hiP m) := h
  rw [← e] at h1
  exact h1
theorem Rel_c {c c' m : Hp} (h : Rel c m) (e : loP c' = loP c) : Rel c' m := by
  have h1 : Rel (loP c) m := h
  rw [← e] at h1
  exact h1
def Op (fx fm : Hp → Option (Int32 × Hp)) : Prop := ∀ c m, Rel c m → ∃ r c' m', fx c = some (r, c') ∧ fm m = some (r, m') ∧ Rel c' m' ∧ hiP c' = hiP c ∧ loP m' = loP m
def Rd (fx fm : Hp → Option Int32) : Prop := ∀ c m, Rel c m → ∃ r, fx c = some r ∧ fm m = some r
theorem op_transfer : Rd r_transfer m_transfer := by
  rintro c m ⟨-, -, -, -, -, -, -, -, -, h, -⟩
  exact ⟨_, rfl, by rw [m_transfer, h]⟩
theorem op_reply : Rd r_reply m_reply := by
  rintro c m ⟨-, ⟨-, h, -⟩, -⟩
  exact ⟨_, rfl, by rw [m_reply, h]⟩
theorem op_open : Op r_open m_open := by
  rintro c m ⟨hl, ⟨⟨s1, s2⟩, s3, ⟨s4, s5⟩, s6⟩, hw, hm, hn, hd, ha, hg, he, hc⟩
  unfold r_open m_open
  rw [s1]
  by_cases z : gI m (20, 0) 12 = 0
  · rw [if_pos z, if_pos z]
    have k0 : gI m (20, 0) 28 = 0 ∧ gI c (12, 0) 2 = 0 ∧ gI c (12, 0) 3 = 0 := by
      rcases hc.2 with h | h | h
      · exact h
      · rw [z] at h; exact absurd h.2.1 (by decide)
      · rw [z] at h; exact absurd h.2.1 (by decide)
    refine ⟨_, _, _, rfl, rfl, ⟨hl, ⟨⟨rfl, Or.inr rfl⟩, rfl, ⟨rfl, Or.inl rfl⟩, s6⟩, ⟨0, by decide, rfl, rfl, fun q => by cases q⟩, Or.inr ⟨by show (220 : Int32) ≠ 257; decide, by show (220 : Int32) ≠ 213; decide, rfl⟩, hn, hd, ha, Or.inl ⟨rfl, rfl⟩, ⟨rfl, ⟨0, by decide, rfl, rfl⟩, Or.inl ⟨rfl, rfl⟩⟩, ⟨hc.1, Or.inl k0⟩⟩, ?_, ?_⟩
    · simp (disch := decide) only [hiP_sI, hiP_sL, hiP_sR]
    · simp (disch := decide) only [loP_sI, loP_sL]
  · rw [if_neg z, if_neg z]
    exact ⟨_, _, _, rfl, rfl, ⟨hl, ⟨⟨s1, s2⟩, s3, ⟨s4, s5⟩, s6⟩, hw, hm, hn, hd, ha, hg, he, hc⟩, rfl, rfl⟩
theorem op_join : Op r_join m_join := by
  rintro c m ⟨hl, hs, ⟨w, w1, w2, w3, w4⟩, hr⟩
  have hr' := hr
  unfold r_join m_join
  rw [w2, w3]
  have e1 : (nI w = 1) = (w = 1) := propext (nI_eq (b := 1) (by omega) (by decide))
  have e2 : ((some w : Option Nat) = some 1) = (w = 1) := propext (by simp)
  have gw : ∀ o : Option (Int32 × Hp), guardW (some w) o = o := fun o => by
    unfold guardW wB
    rw [if_pos (decide_eq_true w1)]
  simp only [e1, e2, gw]
  by_cases z : w = 1
  · subst z
    rw [if_pos rfl, if_pos rfl]
    refine ⟨_, _, _, rfl, rfl, ⟨hl, hs, ⟨2, by decide, rfl, rfl, fun q => by cases q⟩, hr⟩, ?_, ?_⟩
    · simp (disch := decide) only [hiP_sI, hiP_sL, hiP_sR]
    · simp (disch := decide) only [loP_sI, loP_sL]
  · rw [if_neg z, if_neg z]
    refine ⟨_, _, _, rfl, rfl, ⟨hl, hs, ⟨w, w1, w2, rfl, w4⟩, hr⟩, rfl, ?_⟩
    simp (disch := decide) only [loP_sI, loP_sL]
theorem op_listen (p : Int32) : Op (r_listen p) (m_listen p) := by
  rintro c m ⟨hl, ⟨s1, s3, s4, s6⟩, hr⟩
  unfold r_listen m_listen
  by_cases a : p < -1
  · rw [if_pos a, if_pos a]
    exact ⟨_, _, _, rfl, rfl, ⟨hl, ⟨s1, s3, s4, s6⟩, hr⟩, rfl, rfl⟩
  · rw [if_neg a, if_neg a]
    by_cases b : p ≤ 65535
    · rw [if_pos b, if_pos b]
      exact ⟨_, _, _, rfl, rfl, ⟨hl, ⟨s1, s3, s4, rfl⟩, hr⟩, hiP_sI (by decide), loP_sI (by decide)⟩
    · rw [if_neg b, if_neg b]
      exact ⟨_, _, _, rfl, rfl, ⟨hl, ⟨s1, s3, s4, s6⟩, hr⟩, rfl, rfl⟩
