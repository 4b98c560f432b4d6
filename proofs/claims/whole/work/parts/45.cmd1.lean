/-! commands that go about the tree: PWD, CWD, CDUP, RNFR, RMD, DELE -/
def CX (y m : Hp) (n r q : Nat) : Prop := RelY y m ∧ LG y m r q ∧ gI m (20, 0) 28 = 0 ∧ gR y (14, 1) 2 = none ∧ gI m (20, 0) 9 = nI n
theorem sI_same (h : Hp) (a : Ad) (s : Nat) : sI h a s (gI h a s) = h := by
  refine Prod.ext ?_ rfl
  funext b t
  show (if b = a ∧ t = s then gI h a s else h.1 b t) = h.1 b t
  by_cases z : b = a ∧ t = s
  · rw [if_pos z, z.1, z.2]; rfl
  · rw [if_neg z]
theorem kd_of {y m : Hp} {i : Nat} (hn : rNs y m) (hi : i < 24) (hu : gI m (21, 0) i ≠ 0) : (gI m (21, 0) i = 1 ∧ gI y (5, i) 3 = 1) ∨ (gI m (21, 0) i = 2 ∧ gI y (5, i) 3 = 0) := by
  rcases hn i hi with h | h | h
  · exact absurd h.1 hu
  · exact Or.inl ⟨h.1, h.2.2.1⟩
  · exact Or.inr ⟨h.1, h.2.2.1⟩
theorem not_root {m : Hp} {i r : Nat} (hi : i < 24) (h : under m i r) (hne : i ≠ r) : gI m (22, 0) i ≠ nI i := fun z => by
  have hp : par m i = i := par_nI z hi
  obtain ⟨n, hn⟩ := h
  rw [up_fix hp] at hn
  exact hne hn
theorem file_root {y m : Hp} {i : Nat} (hn : rNs y m) (hi : i < 24) (hu : gI m (21, 0) i = 2) : gI m (22, 0) i ≠ nI i := fun z => by
  rcases rN_P (hn i hi) (by rw [hu]; decide) with ⟨h1, h2, h3⟩ | ⟨p, h1, h2, h3, h4, h5, h6, h7⟩
  · rw [hu] at h3; exact absurd h3 (by decide)
  · rw [h4] at z
    exact h2 ((nI_eq (by omega) (by omega)).mp z)
theorem pwd_eq {y m : Hp} {n r q : Nat} (hc : CX y m n r q) : Res ((msg_spellPath (gR y (0, 0) 11) y).bind fun z => some ((257 : Int32), z)) (m_change (5 : Int32) m) y m := by
  obtain ⟨hy, hl, hz, hf, h9⟩ := hc
  obtain ⟨l1, l2, l3, l4, l5, l6, l7, l8, l9, l10⟩ := hl
  obtain ⟨c', m', a1, a2, a3, a4, a5⟩ := way_eq hy l2 (by rw [l9]; decide) (par_nI l8 l1) l4 l10
  unfold m_change
  rw [l5, a1, if_pos rfl, l6, a2, Option.bind_some, Option.bind_some]
  exact ⟨_, _, _, rfl, rfl, Y_W (Y_M hy a4) a5, fun _ => a3, npM_hi a4, npW_lo a5⟩
theorem cwd_Y {y m : Hp} {n r q i : Nat} (hc : CX y m n r q) (hi : i < 24) (k1 : gI m (21, 0) i = 1) (hu : under m i r) : RelY (sR y (0, 0) 11 (some i)) (sI m (20, 0) 17 (nI i)) := by
  obtain ⟨⟨hs, hw, hn, hd, ha, hg, he, hk⟩, ⟨l1, l2, l3, l4, l5, l6, l7, l8, l9, l10⟩, hz, hf, h9⟩ := hc
  exact ⟨hs, hw, hn, hd, ha, Or.inr ⟨r, i, l1, hi, l3, l4, rfl, rfl, l7, l8, k1, hu⟩, he, hk⟩
theorem ren_Y {y m : Hp} (h : RelY y m) (hf : gR y (14, 1) 2 = none) : RelY y (sI m (20, 0) 20 (-1 : Int32)) := by
  obtain ⟨hs, hw, hn, hd, ha, hg, he, hk⟩ := h
  exact ⟨hs, hw, hn, hd, ha, hg, ⟨he.1, he.2.1, Or.inl ⟨hf, rfl⟩⟩, hk⟩
theorem cwd_eq {y m : Hp} {n r q v : Nat} {E P : Option Nat} (hc : CX y m n r q) (hp : PF y m r v E P) (hm : MF m n v E P) : Res (r_changeTo (gR y (8, 0) 4) (250 : Int32) y) (m_change (6 : Int32) m) y m := by
  obtain ⟨hy, hl, hz, hf, h9⟩ := id hc
  obtain ⟨f1, -, -, ok, -⟩ := hp
  obtain ⟨g1, -⟩ := hm
  have hn := hy.2.2.1
  rw [f1]
  cases E with
  | none =>
    refine Res_no (r := 550) (c1 := y) (m1 := m) rfl ?_ hy (by decide) rfl rfl
    unfold m_change; rw [if_neg (by decide), if_neg (by decide), if_neg (by decide), if_neg (by decide), h9, g1, Option.bind_some]; rw [on_n, if_pos (by decide), Option.bind_some, if_pos rfl, Option.bind_some, if_pos rfl]
  | some i =>
    obtain ⟨o1, o2, o3⟩ := ok i rfl
    rcases kd_of hn o1 o2 with ⟨k1, k2⟩ | ⟨k1, k2⟩
    · refine Res_no (r := 250) (c1 := sR y (0, 0) 11 (some i)) (m1 := sI (sI m (20, 0) 17 (nI i)) (20, 0) 20 (-1 : Int32)) ?_ ?_ (ren_Y (cwd_Y hc o1 k1 o3) hf) (by decide) ?_ ?_
      · rw [r_changeTo, if_neg (fun z => by cases z), nd24 o1, Option.bind_some, k2, if_neg (by decide)]
      · unfold m_change; rw [if_neg (by decide), if_neg (by decide), if_neg (by decide), if_neg (by decide), h9, g1, Option.bind_some]; rw [on_s, if_neg (nI_pos (by omega)), gB o1 (by decide), clI (by omega), k1, if_pos rfl, Option.bind_some, if_pos rfl, Option.bind_some, if_neg (by decide), if_neg (by decide), if_pos rfl, Option.bind_some, if_neg (by decide), Option.bind_some, if_neg (by decide), if_neg (by decide), gB o1 (by decide), Option.bind_some, gB o1 (by decide), if_neg (by decide), Option.bind_some, sI_same]
      · simp (disch := decide) only [hiP_sI, hiP_sL, hiP_sR]
      · simp (disch := decide) only [loP_sI, loP_sL]
    · refine Res_no (r := 550) (c1 := y) (m1 := m) ?_ ?_ hy (by decide) rfl rfl
      · rw [r_changeTo, if_neg (fun z => by cases z), nd24 o1, Option.bind_some, k2, if_pos rfl]
      · unfold m_change; rw [if_neg (by decide), if_neg (by decide), if_neg (by decide), if_neg (by decide), h9, g1, Option.bind_some]; rw [on_s, if_neg (nI_pos (by omega)), gB o1 (by decide), clI (by omega), k1, if_neg (by decide), Option.bind_some, if_pos rfl, Option.bind_some, if_pos rfl]
theorem cdup_eq {y m : Hp} {n r q : Nat} (hc : CX y m n r q) : Res ((tree_step (gR y (0, 0) 11) (50775103373312 : Int64) y).bind fun z => (r_changeTo z (200 : Int32) y).bind fun w => some (w.1, w.2)) (m_change (7 : Int32) m) y m := by
  obtain ⟨hy, hl, hz, hf, h9⟩ := id hc
  obtain ⟨l1, l2, l3, l4, l5, l6, l7, l8, l9, l10⟩ := hl
  have hn := hy.2.2.1
  have ku : gI m (21, 0) q ≠ 0 := by rw [l9]; decide
  obtain ⟨p1, p2, p3, p4, p5⟩ := rP_par (rN_P (hn q l2) ku) l2
  have hr : par m r = r := par_nI l8 l1
  have hst := step_eq (o := some q) (r := r) (v := 50775103373312) hn (fun i hi => by cases hi; exact ⟨l2, ku, l10⟩) (by decide)
  have hs2 : stp m (some q) 50775103373312 = some (par m q) := by
    show (if gI m (21, 0) q = 1 then (if (50775103373312 : Nat) = 50577534877696 then some q else if (50775103373312 : Nat) = 50775103373312 then some (par m q) else ffi (chB m q (lN 50775103373312)) 24) else none) = _
    rw [if_pos l9, if_neg (by decide), if_pos rfl]
  rcases kd_of hn p1 (by rw [p3]; decide) with ⟨k1, k2⟩ | ⟨k1, k2⟩
  · refine Res_no (r := 200) (c1 := sR y (0, 0) 11 (some (par m q))) (m1 := sI m (20, 0) 17 (nI (par m q))) ?_ ?_ (cwd_Y hc p1 p3 (under_par hr l10)) (by decide) ?_ ?_
    · rw [l5, show (50775103373312 : Int64) = lN 50775103373312 from rfl, hst, hs2, Option.bind_some, r_changeTo, if_neg (fun z => by cases z), nd24 p1, Option.bind_some, k2, if_neg (by decide), Option.bind_some]
    · rw [m_change, if_neg (by decide), if_pos rfl, l6, gB l2 (by decide), clI (by omega), p2]
    · simp (disch := decide) only [hiP_sI, hiP_sL, hiP_sR]
    · simp (disch := decide) only [loP_sI, loP_sL]
  · rw [p3] at k1; exact absurd k1 (by decide)
theorem rnfr_eq {y m : Hp} {n r q v : Nat} {E P : Option Nat} (hc : CX y m n r q) (hp : PF y m r v E P) (hm : MF m n v E P) : Res (r_renameFrom y) (m_change (12 : Int32) m) y m := by
  obtain ⟨hy, hl, hz, hf, h9⟩ := id hc
  obtain ⟨f1, -, -, ok, -⟩ := hp
  obtain ⟨g1, -⟩ := hm
  obtain ⟨l1, l2, l3, l4, l5, l6, l7, l8, l9, l10⟩ := hl
  have hn := hy.2.2.1
  cases E with
  | none =>
    refine Res_no (r := 550) (c1 := y) (m1 := m) ?_ ?_ hy (by decide) rfl rfl
    · rw [r_renameFrom, f1, if_pos rfl]
    · unfold m_change; rw [if_neg (by decide), if_neg (by decide), if_neg (by decide), if_neg (by decide), h9, g1, Option.bind_some]; rw [on_n, if_pos (by decide), Option.bind_some, if_neg (by decide), if_neg (by decide), if_pos rfl, if_pos (by decide), Option.bind_some, if_pos rfl]
  | some i =>
    obtain ⟨o1, o2, o3⟩ := ok i rfl
    have hd : (if on (some i) < 0 then some (0 : Int32) else guardB (on (some i)) 24 (if gI m (21, 0) (on (some i)).toNatClampNeg = 1 then some 1 else some 0)) = some (if gI m (21, 0) i = 1 then 1 else 0) := by
      rw [on_s, if_neg (nI_pos (by omega)), gB o1 (by decide), clI (by omega)]
      by_cases k : gI m (21, 0) i = 1
      · rw [if_pos k, if_pos k]
      · rw [if_neg k, if_neg k]
    have e1 : (nI i = nI r) = (i = r) := neq (by omega) (by omega)
    have e2 : ((some i : Option Nat) = some r) = (i = r) := propext (by simp)
    by_cases g : i = r
    · refine Res_no (r := 550) (c1 := y) (m1 := m) ?_ ?_ hy (by decide) rfl rfl
      · rw [r_renameFrom, f1, if_neg (fun z => by cases z), l3, if_pos (by rw [g])]
      · unfold m_change; rw [if_neg (by decide), if_neg (by decide), if_neg (by decide), if_neg (by decide), h9, g1, Option.bind_some]; rw [hd, Option.bind_some, on_s, if_neg (by decide), if_neg (by decide), if_pos rfl, if_neg (nI_pos (by omega)), l4, if_pos (by rw [g]), Option.bind_some, if_pos rfl]
    · refine Res_no (r := 350) (c1 := sR y (14, 1) 2 (some i)) (m1 := sI m (20, 0) 20 (nI i)) ?_ ?_ ?_ (by decide) ?_ ?_
      · rw [r_renameFrom, f1, if_neg (fun z => by cases z), l3, if_neg (by rw [e2]; exact g)]
      · unfold m_change; rw [if_neg (by decide), if_neg (by decide), if_neg (by decide), if_neg (by decide), h9, g1, Option.bind_some]; rw [hd, Option.bind_some, on_s, if_neg (by decide), if_neg (by decide), if_pos rfl, if_neg (nI_pos (by omega)), l4, if_neg (by rw [e1]; exact g), Option.bind_some, if_neg (by decide), if_neg (by decide), if_neg (by decide), Option.bind_some, if_pos rfl, Option.bind_some, if_neg (by decide), if_neg (by decide), gB o1 (by decide), Option.bind_some, gB o1 (by decide), if_pos rfl, Option.bind_some, clI (by omega), sI_same, sI_same]
      · obtain ⟨hs, hw, hn, hd, ha, hg, he, hk⟩ := hy
        exact ⟨hs, hw, hn, hd, ha, hg, ⟨he.1, he.2.1, Or.inr ⟨i, o1, rfl, rfl, o2, not_root o1 o3 g⟩⟩, hk⟩
      · simp (disch := decide) only [hiP_sI, hiP_sL, hiP_sR]
      · simp (disch := decide) only [loP_sI, loP_sL]
theorem free_Y {y m : Hp} {n r q i : Nat} (hc : CX y m n r q) (hi : i < 24) (he : ∀ j, j < 24 → ¬ inD m i j) (hroot : gI m (22, 0) i ≠ nI i) (hq : q ≠ i) : RelY (sI (sR (sI y (5, i) 2 (0 : Int32)) (5, i) 5 none) (5, i) 1 (0 : Int32)) (sI (sI m (20, 0) 20 (-1 : Int32)) (21, 0) i (0 : Int32)) := by
  obtain ⟨hy, hl, hz, hf, h9⟩ := id hc
  obtain ⟨l1, l2, l3, l4, l5, l6, l7, l8, l9, l10⟩ := hl
  obtain ⟨hs, hw, hn, hd, ha, hg, hme, hk⟩ := ren_Y hy hf
  have hN := free_N (c := y) (m := sI m (20, 0) 20 (-1 : Int32)) (i := i) ⟨hn, hd, ha, hg⟩ hi he hroot (fun q' hq' => by
    rw [l5] at hq'
    cases hq'
    exact hq) rfl rfl
  obtain ⟨b1, b2, b3, b4⟩ := hN
  exact ⟨hs, hw, b1, b2, b3, b4, ⟨hme.1, hme.2.1, Or.inl ⟨hf, rfl⟩⟩, rCar_z hk hz rfl⟩
theorem dele_eq {y m : Hp} {n r q v : Nat} {E P : Option Nat} (hc : CX y m n r q) (hp : PF y m r v E P) (hm : MF m n v E P) : Res (r_deleteFile y) (m_change (10 : Int32) m) y m := by
  obtain ⟨hy, hl, hz, hf, h9⟩ := id hc
  obtain ⟨f1, -, -, ok, -⟩ := hp
  obtain ⟨g1, -⟩ := hm
  obtain ⟨l1, l2, l3, l4, l5, l6, l7, l8, l9, l10⟩ := hl
  have hn := hy.2.2.1
  cases E with
  | none =>
    refine Res_no (r := 550) (c1 := y) (m1 := m) ?_ ?_ hy (by decide) rfl rfl
    · rw [r_deleteFile, f1, if_pos rfl]
    · unfold m_change; rw [if_neg (by decide), if_neg (by decide), if_neg (by decide), if_neg (by decide), h9, g1, Option.bind_some]; rw [on_n, if_pos (by decide), Option.bind_some, if_neg (by decide), if_neg (by decide), if_neg (by decide), if_pos (by decide), Option.bind_some, if_pos rfl]
  | some i =>
    obtain ⟨o1, o2, o3⟩ := ok i rfl
    rcases kd_of hn o1 o2 with ⟨k1, k2⟩ | ⟨k1, k2⟩
    · refine Res_no (r := 550) (c1 := y) (m1 := m) ?_ ?_ hy (by decide) rfl rfl
      · rw [r_deleteFile, f1, if_neg (fun z => by cases z), nd24 o1, Option.bind_some, k2, if_neg (by decide)]
      · unfold m_change; rw [if_neg (by decide), if_neg (by decide), if_neg (by decide), if_neg (by decide), h9, g1, Option.bind_some]; rw [on_s, if_neg (nI_pos (by omega)), gB o1 (by decide), clI (by omega), k1, if_pos rfl, Option.bind_some, if_neg (by decide), if_neg (by decide), if_neg (by decide), if_neg (nI_pos (by omega)), if_neg (by decide), Option.bind_some, if_pos rfl]
    · refine Res_no (r := 250) (c1 := sI (sR (sI y (5, i) 2 (0 : Int32)) (5, i) 5 none) (5, i) 1 (0 : Int32)) (m1 := sI (sI m (20, 0) 20 (-1 : Int32)) (21, 0) i (0 : Int32)) ?_ ?_ (free_Y hc o1 (fun j hj z => ?_) (file_root hn o1 k1) (fun z => ?_)) (by decide) ?_ ?_
      · rw [r_deleteFile, f1, if_neg (fun z => by cases z), nd24 o1, Option.bind_some, k2, if_pos rfl]; rfl
      · unfold m_change; rw [if_neg (by decide), if_neg (by decide), if_neg (by decide), if_neg (by decide), h9, g1, Option.bind_some]; rw [on_s, if_neg (nI_pos (by omega)), gB o1 (by decide), clI (by omega), k1, if_neg (by decide), Option.bind_some, if_neg (by decide), if_neg (by decide), if_neg (by decide), if_neg (nI_pos (by omega)), if_pos rfl, Option.bind_some, if_neg (by decide), if_neg (by decide), if_neg (by decide), Option.bind_some, if_neg (by decide), Option.bind_some, if_neg (by decide), if_pos rfl, Option.bind_some, gB o1 (by decide), if_neg (by decide), Option.bind_some, sI_same]
      · have := (inD_nm hj o1 (hn j hj) z).2.2
        rw [k1] at this; exact absurd this (by decide)
      · rw [z, k1] at l9; exact absurd l9 (by decide)
      · simp (disch := decide) only [hiP_sI, hiP_sL, hiP_sR]
      · simp (disch := decide) only [loP_sI, loP_sL]
