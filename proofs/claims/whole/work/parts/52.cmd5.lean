/-! NLST; and the commands that need no path -/
/-- NLST; E: what its path leads to, or the current directory -/
theorem nlst_eq {y m : Hp} {n r q : Nat} {E : Option Nat} (hc : CX y m n r q) (ho : gI m (20, 0) 12 = 1) (f1 : gR y (8, 0) 4 = E) (ok : okN m r E) (tw0 : (if 0 ≤ (gI m (20, 0) 11) then (m_lead (gI m (20, 0) 9) m).bind fun y3 => some y3 else some (gI m (20, 0) 17)) = some (on E)) : Res (r_listNames y) (m_transferBy (22 : Int32) m) y m := by
  obtain ⟨hy, hl, hz, hf, h9⟩ := id hc
  have hn := hy.2.2.1
  have tw : m_transferBy (22 : Int32) m = if on E < 0 then some ((550 : Int32), m) else guardB (on E) 24 (if (gI m (21, 0) (on E).toNatClampNeg) = (1 : Int32) then m_transferBy_j80 22 (on E) m else some ((550 : Int32), m)) := by
    rw [m_transferBy, tw0, Option.bind_some, if_neg (by decide), m_transferBy_j56, if_pos rfl]
  cases E with
  | none =>
    refine Res_no (r := 550) (c1 := y) (m1 := m) ?_ ?_ hy (by decide) rfl rfl
    · rw [r_listNames, f1, if_pos rfl]
    · rw [tw, on_n, if_pos (by decide)]
  | some i =>
    obtain ⟨o1, o2, o3⟩ := ok i rfl
    rw [on_s, if_neg (nI_pos (by omega)), gB o1 (by decide), clI (by omega)] at tw
    rcases kd_of hn o1 o2 with ⟨k1, k2⟩ | ⟨k1, k2⟩
    · rw [k1, if_pos rfl, m_transferBy_j80, if_neg (by decide), if_neg (by decide), m_transferBy_j120, if_pos (nI_pos' (by omega))] at tw
      have cw : r_listNames y = (r_dataConnects y).bind fun y4 => if y4.1 = 0 then some ((425 : Int32), y4.2) else (cargo_giveNames (gR y (8, 0) 4) y4.2).bind fun y6 => some ((150 : Int32), y6) := by
        rw [r_listNames, f1, if_neg (show ¬ (some i : Option Nat) = none from fun z => by cases z), nd24 o1, Option.bind_some, k2, if_neg (by decide)]
      obtain ⟨t, c1, t1, ⟨rfl, rfl, t2⟩ | ⟨rfl, rfl, t2⟩⟩ := conn_eq hy.2.1 hy.1.2.2.2
      · have j173 : m_transferBy_j173 22 (nI i) m = (m_loadNames (nI i) (sI (sI (sI (sI (sI m (20, 0) 28 (1 : Int32)) (20, 0) 29 (0 : Int32)) (20, 0) 30 (0 : Int32)) (20, 0) 32 (nI i)) (20, 0) 33 (0 : Int32))).bind fun t34 => some ((150 : Int32), t34) := by
          rw [m_transferBy_j173, if_neg (by decide), if_pos rfl, Option.bind_some, if_neg (by decide), Option.bind_some, gZ0, if_neg (by decide), if_pos rfl]
          cases m_loadNames (nI i) (sI (sI (sI (sI (sI m (20, 0) 28 (1 : Int32)) (20, 0) 29 (0 : Int32)) (20, 0) 30 (0 : Int32)) (20, 0) 32 (nI i)) (20, 0) 33 (0 : Int32)) <;> rfl
        obtain ⟨hs, hw, hn, hd, hac, hg, he, hk⟩ := hy
        have k0 : gI c1 (12, 0) 2 = 0 ∧ gI c1 (12, 0) 3 = 0 := by
          rcases hk.2 with h | h | h
          · exact h.2
          · rw [hz] at h; exact absurd h.1 (by decide)
          · rw [hz] at h; exact absurd h.1 (by decide)
        generalize em0 : sI (sI (sI (sI (sI m (20, 0) 28 (1 : Int32)) (20, 0) 29 (0 : Int32)) (20, 0) 30 (0 : Int32)) (20, 0) 32 (nI i)) (20, 0) 33 (0 : Int32) = m0 at j173
        have hX : RelX c1 m0 := by rw [← em0]; exact ⟨hs, hw, hn, hd, hac, hg, he⟩
        have hX2 : RelX (sI c1 (12, 0) 1 (1 : Int32)) m0 := hX
        have lo0 : loP m0 = loP m := by rw [← em0]; simp (disch := decide) only [loP_sI, loP_sL]
        obtain ⟨nx, hnx⟩ := nx_of hX.2.2.1 o1
        obtain ⟨x, x1, x2, x3⟩ := names_c (c := sI c1 (12, 0) 1 (1 : Int32)) hX2.2.2.1 o1 hnx ⟨by simp, k0.1, fun j hj => by cases hj⟩
        obtain ⟨u, u1, u2, u3⟩ := names_m hX.2.2.1 o1 hnx ⟨by simp, by rw [← em0]; rfl, fun j hj => by cases hj⟩
        obtain ⟨x', a1, a2, a3⟩ := next_c (c := sI c1 (12, 0) 1 (1 : Int32)) (V := 0) hX2.2.2.1 o1 (by decide)
        have ex : x' = nx 0 := isNext_u a2 (hnx 0 (by decide)).2
        rw [ex] at a3
        refine Res_no (r := 150) (c1 := x.2.2) (m1 := u.2.2) ?_ ?_ (give_Y (c := sI c1 (12, 0) 1 (1 : Int32)) (m := m0) (L := NL nx 24 0) hX2 rfl k0.2 (by rw [← em0]; rfl) (by rw [← em0]; exact ho) (by rw [← em0]; rfl) x3 u3 x2 u2 (NL_lt nx 24 0)) (by decide) ?_ ?_
        · rw [cw, t1, Option.bind_some, if_neg one_ne, f1, cargo_giveNames, show (0 : Int64) = lN 0 from rfl, a3, Option.bind_some, x1, Option.bind_some, Option.bind_some]
        · rw [tw, t2, j173, m_loadNames, u1, Option.bind_some, Option.bind_some]
        · rw [npC_hi x3]; simp (disch := decide) only [hiP_sI, hiP_sL, hiP_sR]
        · rw [npL_lo u3, lo0]
      · refine Res_no (r := 425) (c1 := sR y (0, 0) 13 (some 0)) (m1 := sI m (20, 0) 25 (0 : Int32)) ?_ ?_ (Y_425 hy) (by decide) ?_ ?_
        · rw [cw, t1, Option.bind_some, if_pos rfl]
        · rw [tw, t2]
        · simp (disch := decide) only [hiP_sI, hiP_sL, hiP_sR]
        · simp (disch := decide) only [loP_sI, loP_sL]
    · refine Res_no (r := 550) (c1 := y) (m1 := m) ?_ ?_ hy (by decide) rfl rfl
      · rw [r_listNames, f1, if_neg (fun z => by cases z), nd24 o1, Option.bind_some, k2, if_pos rfl]
      · rw [tw, k1, if_neg (by decide)]
theorem user_eq {y m : Hp} {n : Nat} (hy : RelY y m) (h : rLine y m n) (ha : cl m n + 1 < n) (hf11 : gI m (20, 0) 11 = nI (cl m n + 1)) (h9 : gI m (20, 0) 9 = nI n) : Res (r_nameUser y) (m_enterAs (1 : Int32) m) y m := by
  obtain ⟨hs, hw, hn, hd, hac, hg, he, hk⟩ := hy
  have e1 : line_argumentName (sR (sR y (0, 0) 10 none) (0, 0) 11 none) = some (lN (ND (chs m (cl m n + 1)) (n - (cl m n + 1)))) := (argName_eq (c := sR (sR y (0, 0) 10 none) (0, 0) 11 none) (m := m) h ha).1
  have e2 : m_nameAt (nI (cl m n + 1)) (nI n) (sI m (20, 0) 16 (-1 : Int32)) = some (lN (ND (chs m (cl m n + 1)) (n - (cl m n + 1)))) := (argName_eq (c := y) (m := sI m (20, 0) 16 (-1 : Int32)) h ha).2
  have g1 : gI (sI m (20, 0) 16 (-1 : Int32)) (20, 0) 11 = nI (cl m n + 1) := hf11
  have g2 : gI (sI m (20, 0) 16 (-1 : Int32)) (20, 0) 9 = nI n := h9
  refine Res_no (r := 331) (c1 := sL (sR (sR y (0, 0) 10 none) (0, 0) 11 none) (14, 1) 1 (lN (ND (chs m (cl m n + 1)) (n - (cl m n + 1))))) (m1 := sL (sI m (20, 0) 16 (-1 : Int32)) (20, 0) 19 (lN (ND (chs m (cl m n + 1)) (n - (cl m n + 1))))) ?_ ?_ ⟨hs, hw, hn, hd, hac, Or.inl ⟨rfl, rfl⟩, ⟨rfl, he.2⟩, hk⟩ (by decide) ?_ ?_
  · rw [r_nameUser, r_logOut, Option.bind_some, e1, Option.bind_some]
  · rw [m_enterAs, if_pos rfl, g1, g2, e2, Option.bind_some]
  · simp (disch := decide) only [hiP_sI, hiP_sL, hiP_sR]
  · simp (disch := decide) only [loP_sI, loP_sL]
theorem quit_eq {y m : Hp} (hy : RelY y m) : Res (r_quit y) (m_enterAs (3 : Int32) m) y m := by
  obtain ⟨⟨s1, s2, s3, s4⟩, hw, hn, hd, hac, hg, he, hk⟩ := hy
  refine Res_no (r := 221) (m1 := sI (sI (sI m (20, 0) 12 (0 : Int32)) (20, 0) 28 (0 : Int32)) (20, 0) 25 (0 : Int32)) rfl ?_ ⟨⟨⟨rfl, Or.inl rfl⟩, s2, s3, s4⟩, ⟨0, by decide, rfl, rfl, fun q => by cases q⟩, hn, hd, hac, hg, he, rfl, Or.inl ⟨rfl, rfl, rfl⟩⟩ (by decide) ?_ ?_
  · rw [m_enterAs, if_neg (by decide), if_pos rfl]
  · simp (disch := decide) only [hiP_sI, hiP_sL, hiP_sR]
  · simp (disch := decide) only [loP_sI, loP_sL]
theorem noop_eq {y m : Hp} (hy : RelY y m) : Res (some ((200 : Int32), y)) (m_enterAs (4 : Int32) m) y m := by
  refine Res_no (r := 200) (c1 := y) (m1 := m) rfl ?_ hy (by decide) rfl rfl
  rw [m_enterAs, if_neg (by decide), if_neg (by decide), if_pos rfl]
def drp (h : Hp) : Hp := sR (sI (sL (sR (sR (sI (sI (sI h (12, 0) 1 (0 : Int32)) (12, 0) 2 (0 : Int32)) (12, 0) 3 (0 : Int32)) (12, 0) 4 none) (12, 0) 5 none) (12, 0) 6 (0 : Int64)) (12, 0) 7 (0 : Int32)) (0, 0) 13 (some 0)
theorem drp_eq (h : Hp) : r_dropTransfer h = some (drp h) := rfl
theorem drp_hi (h : Hp) : hiP (drp h) = hiP h := by
  unfold drp
  simp (disch := decide) only [hiP_sI, hiP_sL, hiP_sR]
theorem abor_eq {y m : Hp} (hy : RelY y m) : Res (r_abort y) (m_prepare (18 : Int32) m) y m := by
  obtain ⟨hs, hw, hn, hd, hac, hg, he, hk⟩ := id hy
  have k3 : gI m (20, 0) 28 = 0 ∨ gI m (20, 0) 28 = 1 ∨ gI m (20, 0) 28 = 2 := by
    rcases hk.2 with h | h | h
    · exact Or.inl h.1
    · exact Or.inr (Or.inl h.1)
    · exact Or.inr (Or.inr h.1)
  by_cases z : gI m (20, 0) 28 = 0
  · have e : sI m (20, 0) 28 (0 : Int32) = m := by
      have := sI_same m (20, 0) 28
      rw [z] at this
      exact this
    refine Res_no (r := 226) (c1 := y) (m1 := m) ?_ ?_ hy (by decide) rfl rfl
    · rw [r_abort, hk.1, z, if_pos rfl]
    · rw [m_prepare, if_neg (by decide), if_neg (by decide), if_neg (by decide), if_neg (by decide), z, if_pos (by decide), Option.bind_some, if_pos rfl, Option.bind_some, if_pos rfl, Option.bind_some, sI_same, e]
  · have z2 : ¬ gI m (20, 0) 28 ≤ 0 := by
      rcases k3 with h | h | h
      · exact absurd h z
      · rw [h]; decide
      · rw [h]; decide
    refine Res_no (r := 426) (c1 := drp y) (m1 := sI (sI m (20, 0) 25 (0 : Int32)) (20, 0) 28 (0 : Int32)) (by rw [r_abort, hk.1, if_neg z]; rfl) ?_ ⟨hs, ⟨0, by decide, rfl, rfl, fun q => by cases q⟩, hn, hd, hac, hg, he, rfl, Or.inl ⟨rfl, rfl, rfl⟩⟩ (by decide) ?_ ?_
    · rw [m_prepare, if_neg (by decide), if_neg (by decide), if_neg (by decide), if_neg (by decide), if_neg z2, Option.bind_some, if_neg one_ne, Option.bind_some, if_neg one_ne, Option.bind_some]
    · exact drp_hi y
    · simp (disch := decide) only [loP_sI, loP_sL]
theorem pasv_eq {y m : Hp} (hy : RelY y m) : Res (some ((227 : Int32), sR y (0, 0) 13 (some 1))) (m_prepare (16 : Int32) m) y m := by
  obtain ⟨hs, hw, hn, hd, hac, hg, he, hk⟩ := hy
  refine Res_no (r := 227) (c1 := sR y (0, 0) 13 (some 1)) (m1 := sI m (20, 0) 25 (1 : Int32)) rfl ?_ ⟨hs, ⟨1, by decide, rfl, rfl, fun q => by cases q⟩, hn, hd, hac, hg, he, hk⟩ (by decide) ?_ ?_
  · rw [m_prepare, if_neg (by decide), if_neg (by decide), if_pos rfl]
  · simp (disch := decide) only [hiP_sI, hiP_sL, hiP_sR]
  · simp (disch := decide) only [loP_sI, loP_sL]
theorem port_eq {y m : Hp} {n : Nat} (hy : RelY y m) (h : rLine y m n) (ha : cl m n + 1 < n) (hf11 : gI m (20, 0) 11 = nI (cl m n + 1)) : Res ((line_argumentPort (sR y (0, 0) 13 (some 3))).bind fun y20 => some ((200 : Int32), sI (sR y (0, 0) 13 (some 3)) (0, 0) 14 y20)) (m_prepare (17 : Int32) m) y m := by
  obtain ⟨hs, hw, hn, hd, hac, hg, he, hk⟩ := hy
  have e1 : line_argumentPort (sR y (0, 0) 13 (some 3)) = some (PT m n 40 (cl m n + 1) 0 0) := argPort_eq (c := sR y (0, 0) 13 (some 3)) (m := m) h ha
  have e2 : m_portTold (sI m (20, 0) 25 (3 : Int32)) = some (PT (sI m (20, 0) 25 (3 : Int32)) n 40 (cl m n + 1) 0 0) := portTold_eq (c := y) (m := sI m (20, 0) 25 (3 : Int32)) h ha hf11
  have e3 : PT (sI m (20, 0) 25 (3 : Int32)) n 40 (cl m n + 1) 0 0 = PT m n 40 (cl m n + 1) 0 0 := by
    have := argPort_eq (c := sR y (0, 0) 13 (some 3)) (m := sI m (20, 0) 25 (3 : Int32)) h ha
    have e4 : line_argumentPort (sR y (0, 0) 13 (some 3)) = some (PT (sI m (20, 0) 25 (3 : Int32)) n 40 (cl m n + 1) 0 0) := this
    rw [e1] at e4
    exact (Option.some.inj e4).symm
  refine Res_no (r := 200) (c1 := sI (sR y (0, 0) 13 (some 3)) (0, 0) 14 (PT m n 40 (cl m n + 1) 0 0)) (m1 := sI (sI m (20, 0) 25 (3 : Int32)) (20, 0) 26 (PT m n 40 (cl m n + 1) 0 0)) ?_ ?_ ⟨hs, ⟨3, by decide, rfl, rfl, fun _ => rfl⟩, hn, hd, hac, hg, he, hk⟩ (by decide) ?_ ?_
  · rw [e1, Option.bind_some]
  · rw [m_prepare, if_neg (by decide), if_neg (by decide), if_neg (by decide), if_pos rfl, e2, Option.bind_some, e3]
  · simp (disch := decide) only [hiP_sI, hiP_sL, hiP_sR]
  · simp (disch := decide) only [loP_sI, loP_sL]
theorem rest_eq {y m : Hp} {n : Nat} (hy : RelY y m) (h : rLine y m n) (ha : cl m n + 1 < n) (hf11 : gI m (20, 0) 11 = nI (cl m n + 1)) (h9 : gI m (20, 0) 9 = nI n) (hok : nOK m (cl m n + 1) (n - (cl m n + 1))) (hf0 : gI y (14, 1) 0 = 0) : Res (r_restart y) (m_prepare (15 : Int32) m) y m := by
  obtain ⟨hs, hw, hn, hd, hac, hg, he, hk⟩ := hy
  have hi := hs.2.2.1.1
  have g1 : ∀ v, gI (sI m (20, 0) 21 v) (20, 0) 18 = gI m (20, 0) 18 := fun _ => rfl
  by_cases z : gI m (20, 0) 18 = 0
  · refine Res_no (r := 504) (c1 := y) (m1 := sI m (20, 0) 21 (0 : Int32)) ?_ ?_ ⟨hs, hw, hn, hd, hac, hg, ⟨he.1, ⟨0, by decide, hf0, rfl⟩, he.2.2⟩, hk⟩ (by decide) ?_ ?_
    · rw [r_restart, hi, if_pos z]
    · rw [m_prepare, if_neg (by decide), if_pos rfl, if_pos z, Option.bind_some, g1, if_pos z, Option.bind_some]
    · rfl
    · simp (disch := decide) only [loP_sI, loP_sL]
  · obtain ⟨x, x1, x2⟩ := argNum_eq h
    have ex : x = nI (dv (chs m (cl m n + 1)) (n - (cl m n + 1))) := by
      rcases x2 with ⟨_, e⟩ | ⟨e, _⟩
      · exact e
      · exact absurd hok e
    have hlt := dv_lt3 hok.2.1 hok.2.2
    have e2 := mnum_eq (s := cl m n + 1) (k := n - (cl m n + 1)) h (by omega) hok.2.1 hok.2.2
    refine Res_no (r := 350) (c1 := sI y (14, 1) 0 x) (m1 := sI m (20, 0) 21 x) ?_ ?_ ⟨hs, hw, hn, hd, hac, hg, ⟨he.1, ⟨_, hlt, ex, ex⟩, he.2.2⟩, hk⟩ (by decide) ?_ ?_
    · rw [r_restart, hi, if_neg z, x1, Option.bind_some]
    · rw [m_prepare, if_neg (by decide), if_pos rfl, if_neg z, hf11, h9, nI_sub (by omega), e2, Option.bind_some, Option.bind_some, g1, if_neg z, Option.bind_some, ex]
    · simp (disch := decide) only [hiP_sI, hiP_sL, hiP_sR]
    · simp (disch := decide) only [loP_sI, loP_sL]
