/-! the data connection; STOR and APPE -/
theorem conn_eq {y m : Hp} (hw : rWay y m) (h27 : gI y (0, 0) 15 = gI m (20, 0) 27) : ∃ t c1, r_dataConnects y = some (t, c1) ∧ ((t = 1 ∧ c1 = y ∧ ∀ a b, m_transferBy_j137 a b m = m_transferBy_j173 a b m) ∨ (t = 0 ∧ c1 = sR y (0, 0) 13 (some 0) ∧ ∀ a b, m_transferBy_j137 a b m = some ((425 : Int32), sI m (20, 0) 25 (0 : Int32)))) := by
  obtain ⟨w, w1, w2, w3, w4⟩ := hw
  have gw : ∀ o : Option (Int32 × Hp), guardW (some w) o = o := fun o => by
    unfold guardW wB
    rw [if_pos (decide_eq_true w1)]
  have e2 : ∀ k, k < 4 → (nI w = nI k) = (w = k) := fun k hk => propext (nI_eq (by omega) (by omega))
  have e3 : ∀ k, ((some w : Option Nat) = some k) = (w = k) := fun k => propext (by simp)
  have e22 : (nI w = (2 : Int32)) = (w = 2) := e2 2 (by decide)
  have e23 : (nI w = (3 : Int32)) = (w = 3) := e2 3 (by decide)
  unfold r_dataConnects m_transferBy_j137
  rw [w2, w3, gw, gw]
  simp only [e22, e23, e3]
  by_cases a : w = 2
  · rw [if_pos a]
    exact ⟨_, _, rfl, Or.inl ⟨rfl, rfl, fun x b => by rw [if_pos a]⟩⟩
  · rw [if_neg a]
    by_cases b : w = 3
    · rw [if_pos b, w4 b, h27]
      by_cases d : gI m (20, 0) 26 = gI m (20, 0) 27
      · rw [if_pos d]
        exact ⟨_, _, rfl, Or.inl ⟨rfl, rfl, fun x z => by rw [if_neg a, if_pos b, if_pos d]⟩⟩
      · rw [if_neg d]
        exact ⟨_, _, rfl, Or.inr ⟨rfl, rfl, fun x z => by rw [if_neg a, if_pos b, if_neg d]⟩⟩
    · rw [if_neg b]
      exact ⟨_, _, rfl, Or.inr ⟨rfl, rfl, fun x z => by rw [if_neg a, if_neg b]⟩⟩
theorem Y_425 {y m : Hp} (h : RelY y m) : RelY (sR y (0, 0) 13 (some 0)) (sI m (20, 0) 25 (0 : Int32)) := by
  obtain ⟨hs, hw, hn, hd, ha, hg, he, hk⟩ := h
  exact ⟨hs, ⟨0, by decide, rfl, rfl, fun q => by cases q⟩, hn, hd, ha, hg, he, hk⟩
theorem Y_take {y m : Hp} {E P : Option Nat} {v : Nat} {ap : Int32} (h : RelY y m) (ho : gI m (20, 0) 12 = 1) (hz : gI m (20, 0) 28 = 0) (hap : r01 ap) (hE : (∃ t, t < 24 ∧ E = some t ∧ gI m (21, 0) t = 2) ∨ (E = none ∧ ∃ p, p < 24 ∧ P = some p ∧ gI m (20, 0) 34 = nI p ∧ gI m (21, 0) p = 1 ∧ gL m (20, 0) 35 = lN v ∧ wfN (lN v) ∧ ∃ i, i < 24 ∧ gI m (21, 0) i = 0)) {nm : Int64} (hnm : E = none → nm = lN v) : RelY (sI (sL (sR (sR (sI y (12, 0) 1 (2 : Int32)) (12, 0) 4 E) (12, 0) 5 P) (12, 0) 6 nm) (12, 0) 7 ap) (sI (sI (sI (sI (sI m (20, 0) 28 (2 : Int32)) (20, 0) 29 (0 : Int32)) (20, 0) 30 (0 : Int32)) (20, 0) 32 (on E)) (20, 0) 33 ap) := by
  obtain ⟨hs, hw, hn, hd, ha, hg, he, hk⟩ := h
  have k0 : gI y (12, 0) 2 = 0 := by
    rcases hk.2 with h | h | h
    · exact h.2.1
    · rw [hz] at h; exact absurd h.1 (by decide)
    · rw [hz] at h; exact absurd h.1 (by decide)
  refine ⟨hs, hw, hn, hd, ha, hg, he, rfl, Or.inr (Or.inr ⟨rfl, ho, 0, by decide, k0, rfl, fun j hj => by omega, rfl, hap, ?_⟩)⟩
  rcases hE with ⟨t, t1, rfl, t3⟩ | ⟨rfl, p, p1, rfl, p3, p4, p5, p6, p7⟩
  · exact Or.inl ⟨t, t1, rfl, rfl, t3⟩
  · have := hnm rfl
    subst this
    exact Or.inr ⟨rfl, rfl, ⟨p, p1, rfl, p3, p4⟩, p5.symm, by show wfN (gL m (20, 0) 35); rw [p5]; exact p6, p7⟩
/-- k = 20: STOR, 21: APPE -/
theorem take_eq {y m : Hp} {n r q v a : Nat} {E P : Option Nat} {ap kk : Int32} (hc : CX y m n r q) (ho : gI m (20, 0) 12 = 1) (hp : PF y m r v E P) (hm : MF m n v E P) (hf11 : gI m (20, 0) 11 = nI a) (ha : a < 2 ^ 31) (hap : (ap = 0 ∧ kk = 20) ∨ (ap = 1 ∧ kk = 21)) : Res (r_takeFile ap y) (m_transferBy kk m) y m := by
  obtain ⟨hy, hl, hz, hf, h9⟩ := id hc
  obtain ⟨f1, f2, f3, ok, f4⟩ := hp
  obtain ⟨g1, nm, pin, g2, g3⟩ := hm
  have hn := hy.2.2.1
  have k19 : ¬ kk = 19 := by rcases hap with ⟨_, h⟩ | ⟨_, h⟩ <;> rw [h] <;> decide
  have k22 : ¬ kk = 22 := by rcases hap with ⟨_, h⟩ | ⟨_, h⟩ <;> rw [h] <;> decide
  have hr01 : r01 ap := by
    rcases hap with ⟨h, _⟩ | ⟨h, _⟩
    · exact Or.inl h
    · exact Or.inr h
  have j80 : ∀ z h, m_transferBy_j80 kk z h = m_transferBy_j92 kk z h := fun z h => by
    rcases hap with ⟨_, e⟩ | ⟨_, e⟩
    · rw [e, m_transferBy_j80, if_pos rfl]
    · rw [e, m_transferBy_j80, if_neg (by decide), if_pos rfl]
  have gz : ∀ o : Option (Int32 × Hp), guardZ ap o = o := fun o => by
    rcases hap with ⟨h, _⟩ | ⟨h, _⟩ <;> rw [h] <;> rfl
  have gz2 : ∀ o : Option Hp, guardZ ap o = o := fun o => by
    rcases hap with ⟨h, _⟩ | ⟨h, _⟩ <;> rw [h] <;> rfl
  have j173 : ∀ z h, m_transferBy_j173 kk z h = some ((150 : Int32), sI (sI (sI (sI (sI h (20, 0) 28 (2 : Int32)) (20, 0) 29 (0 : Int32)) (20, 0) 30 (0 : Int32)) (20, 0) 32 z) (20, 0) 33 ap) := fun z h => by
    have e21 : (if kk = (21 : Int32) then some (1 : Int32) else some (0 : Int32)) = some ap := by
      rcases hap with ⟨e1, e⟩ | ⟨e1, e⟩
      · rw [e, e1, if_neg (by decide)]
      · rw [e, e1, if_pos rfl]
    rw [m_transferBy_j173, if_neg k19, if_neg k22, Option.bind_some, e21, Option.bind_some, gz, if_neg k19, if_neg k22, Option.bind_some]
  have tw : m_transferBy kk m = m_transferBy_j92 kk (on E) m := by
    rw [m_transferBy, hf11, if_pos (nI_pos' ha), h9, g1, Option.bind_some, Option.bind_some, if_neg k19, m_transferBy_j56, if_neg k22, j80]
  cases E with
  | some i =>
    obtain ⟨o1, o2, o3⟩ := ok i rfl
    rw [on_s] at tw
    have tw2 : m_transferBy kk m = if gI m (21, 0) i = 1 then some ((553 : Int32), m) else m_transferBy_j137 kk (nI i) m := by
      rw [tw, m_transferBy_j92, if_neg (nI_pos (by omega)), gB o1 (by decide), clI (by omega), m_transferBy_j120, if_pos (nI_pos' (by omega))]
    have cw : r_takeFile ap y = if gI y (5, i) 3 = 0 then r_takeFile_j54 ap (some i) y else some ((553 : Int32), y) := by
      rw [r_takeFile, f1, if_neg (fun z => by cases z), nd24 o1, Option.bind_some, r_takeFile_j36, if_neg (show ¬ (some i : Option Nat) = none from fun z => by cases z)]
    rcases kd_of hn o1 o2 with ⟨k1, k2⟩ | ⟨k1, k2⟩
    · rw [tw2, cw, k1, k2, if_neg (by decide), if_pos rfl]
      exact Res_no rfl rfl hy (by decide) rfl rfl
    · rw [tw2, cw, k1, k2, if_pos rfl, if_neg (by decide), r_takeFile_j54]
      obtain ⟨t, c1, t1, ⟨rfl, rfl, t2⟩ | ⟨rfl, rfl, t2⟩⟩ := conn_eq hy.2.1 hy.1.2.2.2
      · rw [t1, Option.bind_some, if_neg one_ne, t2, j173, cargo_startTaking, gz2, Option.bind_some]
        refine Res_no rfl rfl (Y_take (v := v) hy ho hz hr01 (Or.inl ⟨i, o1, rfl, k1⟩) (fun z => by cases z)) (by decide) ?_ ?_
        · simp (disch := decide) only [hiP_sI, hiP_sL, hiP_sR]
        · simp (disch := decide) only [loP_sI, loP_sL]
      · rw [t1, Option.bind_some, if_pos rfl, t2]
        refine Res_no rfl rfl (Y_425 hy) (by decide) ?_ ?_
        · simp (disch := decide) only [hiP_sI, hiP_sL, hiP_sR]
        · simp (disch := decide) only [loP_sI, loP_sL]
  | none =>
    rw [on_n] at tw
    cases P with
    | none =>
      have g2' : m_findPlace m = some ((0 : Int32), sI (sL m (20, 0) 35 nm) (20, 0) 34 pin) := by rw [g2, if_pos rfl]
      refine Res_no (r := 553) (c1 := y) (m1 := sI (sL m (20, 0) 35 nm) (20, 0) 34 pin) ?_ ?_ (Y_pl hy hz) (by decide) rfl lo_pl
      · rw [r_takeFile, f1, if_pos rfl, f2, if_pos rfl]
      · rw [tw, m_transferBy_j92, if_pos (by decide), g2', Option.bind_some, if_pos rfl]
    | some p =>
      obtain ⟨q1, q2, q3, q4, q5⟩ := f4 p rfl
      obtain ⟨rfl, rfl⟩ := g3 (fun z => by cases z)
      have f3' := f3 (fun z => by cases z)
      have g2' : m_findPlace m = some ((1 : Int32), sI (sL m (20, 0) 35 (lN v)) (20, 0) 34 (on (some p))) := by rw [g2, if_neg (fun z => by cases z)]
      generalize em1 : sI (sL m (20, 0) 35 (lN v)) (20, 0) 34 (on (some p)) = m1 at g2'
      have a34 : gI m1 (20, 0) 34 = nI p := by rw [← em1]; rfl
      have a35 : gL m1 (20, 0) 35 = lN v := by rw [← em1]; rfl
      have hy1 : RelY y m1 := by rw [← em1]; exact Y_pl hy hz
      have hz1 : gI m1 (20, 0) 28 = 0 := by rw [← em1]; exact hz
      have ho1 : gI m1 (20, 0) 12 = 1 := by rw [← em1]; exact ho
      have lo1 : loP m1 = loP m := by rw [← em1]; exact lo_pl
      have q21 : gI m1 (21, 0) p = 1 := by rw [← em1]; exact q2
      have hn1 := hy1.2.2.1
      have tw2 : m_transferBy kk m = if nI ((ffi (frB m1) 24).getD 24) = (24 : Int32) then some ((452 : Int32), m1) else m_transferBy_j137 kk (-1) m1 := by
        rw [tw, m_transferBy_j92, if_pos (by decide), g2', Option.bind_some, if_neg one_ne, m_transferBy_j120, if_neg (by decide), free_eq hn1, Option.bind_some]
      have cw : r_takeFile ap y = if (if ffi (frB m1) 24 = none then (1 : Int32) else 0) = 0 then r_takeFile_j54 ap none y else some ((452 : Int32), y) := by
        rw [r_takeFile, f1, if_pos rfl, f2, if_neg (fun z => by cases z), r_takeFile_j36, if_pos rfl, full_eq hn1, Option.bind_some]
      cases hfr : ffi (frB m1) 24 with
      | none =>
        rw [tw2, cw, hfr, if_pos (show nI ((none : Option Nat).getD 24) = 24 from rfl), if_pos rfl, if_neg one_ne]
        exact Res_no rfl rfl hy1 (by decide) rfl lo1
      | some k =>
        obtain ⟨k1, k2⟩ := fr_some hfr
        rw [tw2, cw, hfr, show (some k).getD 24 = k from rfl, if_neg (show ¬ nI k = 24 from fun z => by
          have := (nI_eq (b := 24) (by omega) (by decide)).mp z
          omega), if_neg (show ¬ (some k : Option Nat) = none from fun z => by cases z), if_pos rfl, r_takeFile_j54]
        obtain ⟨t, c1, t1, ⟨rfl, rfl, t2⟩ | ⟨rfl, rfl, t2⟩⟩ := conn_eq hy1.2.1 hy1.1.2.2.2
        · rw [t1, Option.bind_some, if_neg one_ne, t2, j173, cargo_startTaking, gz2, Option.bind_some, f2, f3']
          refine Res_no rfl rfl (Y_take (E := none) (v := v) hy1 ho1 hz1 hr01 (Or.inr ⟨rfl, p, q1, rfl, a34, q21, a35, q5, k, k1, k2⟩) (fun _ => rfl)) (by decide) ?_ ?_
          · simp (disch := decide) only [hiP_sI, hiP_sL, hiP_sR]
          · rw [← lo1]; simp (disch := decide) only [loP_sI, loP_sL]
        · rw [t1, Option.bind_some, if_pos rfl, t2]
          refine Res_no rfl rfl (Y_425 hy1) (by decide) ?_ ?_
          · simp (disch := decide) only [hiP_sI, hiP_sL, hiP_sR]
          · rw [← lo1]; simp (disch := decide) only [loP_sI, loP_sL]
