/-! enter -/
theorem say_eq (r : Int32) (m : Hp) : ∃ t, m_say r m = some (r, sI (sI m (20, 0) 13 r) (20, 0) 14 t) ∧ ((r = 257 ∨ r = 213) → t = gI m (20, 0) 14) ∧ (¬ (r = 257 ∨ r = 213) → t = 0) := by
  unfold m_say
  by_cases a : r = 257
  · rw [if_pos a]
    exact ⟨_, rfl, fun _ => rfl, fun z => absurd (Or.inl a) z⟩
  · rw [if_neg a]
    by_cases b : r = 213
    · rw [if_pos b]
      exact ⟨_, rfl, fun _ => rfl, fun z => absurd (Or.inr b) z⟩
    · rw [if_neg b]
      exact ⟨_, rfl, fun z => by rcases z with z | z; exact absurd z a; exact absurd z b, fun _ => rfl⟩
theorem Y_msg {c m : Hp} {r t : Int32} {n : Nat} (hy : RelY c m) (hx : r = 257 ∨ r = 213 → txt c m) (t1 : (r = 257 ∨ r = 213) → t = gI m (20, 0) 14) (t2 : ¬ (r = 257 ∨ r = 213) → t = 0) (hl : rLine c m n) : Rel (sI c (0, 0) 9 r) (sI (sI m (20, 0) 13 r) (20, 0) 14 t) := by
  obtain ⟨⟨s1, s2, s3, s4⟩, hw, hn, hd, ha, hg, he, hk⟩ := hy
  refine ⟨⟨n, hl⟩, ⟨s1, rfl, s3, s4⟩, hw, ?_, hn, hd, ha, hg, he, hk⟩
  by_cases z : r = 257 ∨ r = 213
  · obtain ⟨len, l1, l2, l3, l4⟩ := hx z
    exact Or.inl ⟨z, len, l1, by show t = nI len; rw [t1 z, l2], l3, l4⟩
  · exact Or.inr ⟨fun q => z (Or.inl q), fun q => z (Or.inr q), t2 z⟩
theorem op_enter : Op r_enter m_enter := by
  intro c m h
  obtain ⟨⟨n, hl⟩, hs, hw, hmsg, hn, hd, ha, hg, he, hk⟩ := id h
  have h12 := hs.1.1
  by_cases z : gI m (20, 0) 12 = 0
  · refine ⟨-1, sI c (1, 0) 1 (0 : Int32), sI m (20, 0) 9 (0 : Int32), ?_, ?_, ⟨⟨0, by decide, rfl, rfl, fun j hj => by omega⟩, hs, hw, hmsg, hn, hd, ha, hg, he, hk⟩, ?_, ?_⟩
    · rw [r_enter, h12, if_pos z]; rfl
    · rw [m_enter, if_pos z]
    · simp (disch := decide) only [hiP_sI, hiP_sL, hiP_sR]
    · simp (disch := decide) only [loP_sI, loP_sL]
  · have ho : gI m (20, 0) 12 = 1 := by
      rcases hs.1.2 with q | q
      · exact absurd q z
      · exact q
    have e3 : ∃ y, mem_takeOver 0 (some 1) c = some y ∧ RelY y (sI (sI (sL (sI (sI (sL m (20, 0) 22 (gL m (20, 0) 19)) (20, 0) 23 (gI (sL m (20, 0) 22 (gL m (20, 0) 19)) (20, 0) 20)) (20, 0) 24 (gI (sI (sL m (20, 0) 22 (gL m (20, 0) 19)) (20, 0) 23 (gI (sL m (20, 0) 22 (gL m (20, 0) 19)) (20, 0) 20)) (20, 0) 21)) (20, 0) 19 (0 : Int64)) (20, 0) 20 (-1 : Int32)) (20, 0) 21 (0 : Int32)) ∧ rLine y m n ∧ rBef y (sI (sI (sL (sI (sI (sL m (20, 0) 22 (gL m (20, 0) 19)) (20, 0) 23 (gI (sL m (20, 0) 22 (gL m (20, 0) 19)) (20, 0) 20)) (20, 0) 24 (gI (sI (sL m (20, 0) 22 (gL m (20, 0) 19)) (20, 0) 23 (gI (sL m (20, 0) 22 (gL m (20, 0) 19)) (20, 0) 20)) (20, 0) 21)) (20, 0) 19 (0 : Int64)) (20, 0) 20 (-1 : Int32)) (20, 0) 21 (0 : Int32)) ∧ rNew y ∧ hiP y = hiP c := by
      refine ⟨_, rfl, ⟨hs, hw, hn, hd, ha, hg, ⟨rfl, ⟨0, by decide, rfl, rfl⟩, Or.inl ⟨rfl, rfl⟩⟩, hk⟩, hl, he, ⟨rfl, rfl⟩, ?_⟩
      simp (disch := decide) only [hiP_sI, hiP_sL, hiP_sR]
    obtain ⟨y, y1, y2, y3, y4, y5, y6⟩ := e3
    have tw : ∀ m0, sI (sI (sL (sI (sI (sL m (20, 0) 22 (gL m (20, 0) 19)) (20, 0) 23 (gI (sL m (20, 0) 22 (gL m (20, 0) 19)) (20, 0) 20)) (20, 0) 24 (gI (sI (sL m (20, 0) 22 (gL m (20, 0) 19)) (20, 0) 23 (gI (sL m (20, 0) 22 (gL m (20, 0) 19)) (20, 0) 20)) (20, 0) 21)) (20, 0) 19 (0 : Int64)) (20, 0) 20 (-1 : Int32)) (20, 0) 21 (0 : Int32) = m0 → m_enter m = (m_run m0).bind fun y2 => (m_say y2.1 (sI y2.2 (20, 0) 9 (0 : Int32))).bind fun y3 => some (y3.1, y3.2) := fun m0 e => by
      rw [m_enter, if_neg z, e]
    generalize em : sI (sI (sL (sI (sI (sL m (20, 0) 22 (gL m (20, 0) 19)) (20, 0) 23 (gI (sL m (20, 0) 22 (gL m (20, 0) 19)) (20, 0) 20)) (20, 0) 24 (gI (sI (sL m (20, 0) 22 (gL m (20, 0) 19)) (20, 0) 23 (gI (sL m (20, 0) 22 (gL m (20, 0) 19)) (20, 0) 20)) (20, 0) 21)) (20, 0) 19 (0 : Int64)) (20, 0) 20 (-1 : Int32)) (20, 0) 21 (0 : Int32) = m0 at y2 y4
    have y3' : rLine y m0 n := by rw [← em]; exact y3
    have ho0 : gI m0 (20, 0) 12 = 1 := by rw [← em]; exact ho
    have lo0 : loP m0 = loP m := by rw [← em]; simp (disch := decide) only [loP_sI, loP_sL]
    obtain ⟨r, c', m', k1, k2, k3, k4, k5, k6⟩ := run_eq y2 y3' y4 y5 ho0
    obtain ⟨t, t1, t2, t3⟩ := say_eq r (sI m' (20, 0) 9 (0 : Int32))
    have k3' : RelY (sI c' (1, 0) 1 (0 : Int32)) (sI m' (20, 0) 9 (0 : Int32)) := k3
    have k4' : r = 257 ∨ r = 213 → txt (sI c' (1, 0) 1 (0 : Int32)) (sI m' (20, 0) 9 (0 : Int32)) := k4
    refine ⟨r, sI (sI c' (0, 0) 9 r) (1, 0) 1 (0 : Int32), _, ?_, ?_, (Y_msg (n := 0) k3' k4' t2 t3 ⟨by decide, rfl, rfl, fun j hj => by omega⟩ : Rel (sI (sI c' (1, 0) 1 (0 : Int32)) (0, 0) 9 r) _), ?_, ?_⟩
    · rw [r_enter, h12, if_neg z, y1, Option.bind_some, k1]; rfl
    · rw [tw m0 em, k2, Option.bind_some, t1]; rfl
    · rw [hiP_sI (by decide), hiP_sI (by decide), k5, y6]
    · rw [loP_sI (by decide), loP_sI (by decide), loP_sI (by decide), k6, lo0]
