/-! commands that go about the tree: MKD, RNTO -/
theorem one_ne : ¬ (1 : Int32) = 0 := by decide
theorem Y_pl {y m : Hp} {nm : Int64} {pin : Int32} (h : RelY y m) (hz : gI m (20, 0) 28 = 0) : RelY y (sI (sL m (20, 0) 35 nm) (20, 0) 34 pin) := by
  obtain ⟨hs, hw, hn, hd, ha, hg, he, hk⟩ := h
  exact ⟨hs, hw, hn, hd, ha, hg, he, rCar_z hk hz rfl⟩
theorem lo_pl {m : Hp} {nm : Int64} {pin : Int32} : loP (sI (sL m (20, 0) 35 nm) (20, 0) 34 pin) = loP m := by simp (disch := decide) only [loP_sI, loP_sL]
theorem add_under {c m m' : Hp} {k p r : Nat} {nm : Int64} {kd : Int32} (hn : rNs c m) (h0 : gI m (21, 0) k = 0) (hp : p < 24) (hp1 : gI m (21, 0) p = 1) (hr : r < 24) (hr1 : gI m (21, 0) r = 1) (hrr : gI m (22, 0) r = nI r) (h : under m p r) (em : m' = sI (sL (sI (sI m (21, 0) k kd) (22, 0) k (nI p)) (23, 0) k nm) (24, 0) k (0 : Int32)) : under m' k r ∧ par m' r = r ∧ gI m' (21, 0) k = kd := by
  have e22 : ∀ j, j ≠ k → gI m' (22, 0) j = gI m (22, 0) j := fun j hj => by
    rw [em]
    show (if (22, 0) = ((22, 0) : Ad) ∧ j = k then nI p else gI m (22, 0) j) = _
    rw [if_neg (fun z => hj z.2)]
  have e22k : gI m' (22, 0) k = nI p := by
    rw [em]
    show (if (22, 0) = ((22, 0) : Ad) ∧ k = k then nI p else gI m (22, 0) k) = _
    rw [if_pos ⟨rfl, rfl⟩]
  have e21k : gI m' (21, 0) k = kd := by
    rw [em]
    show (if (21, 0) = ((21, 0) : Ad) ∧ k = k then kd else gI m (21, 0) k) = _
    rw [if_pos ⟨rfl, rfl⟩]
  have ep : ∀ j, j < 24 → gI m (21, 0) j ≠ 0 → par m' j = par m j := fun j _ hu => by
    unfold par; rw [e22 j (fun z => hu (by rw [z]; exact h0))]
  have epk : par m' k = p := par_nI e22k hp
  obtain ⟨n, hn2⟩ := under_keep hn ep hp (by rw [hp1]; decide) h
  refine ⟨⟨n + 1, by rw [up, epk]; exact hn2⟩, ?_, e21k⟩
  rw [ep r hr (by rw [hr1]; decide)]
  exact par_nI hrr hr
theorem mkd_eq {y m : Hp} {n r q v : Nat} {E P : Option Nat} (hc : CX y m n r q) (hp : PF y m r v E P) (hm : MF m n v E P) : Res (r_makeDirectory y) (m_change (8 : Int32) m) y m := by
  obtain ⟨hy, hl, hz, hf, h9⟩ := id hc
  obtain ⟨f1, f2, f3, ok, f4⟩ := hp
  obtain ⟨g1, nm, pin, g2, g3⟩ := hm
  have hn := hy.2.2.1
  cases P with
  | none =>
    have g2' : m_findPlace m = some ((0 : Int32), sI (sL m (20, 0) 35 nm) (20, 0) 34 pin) := by rw [g2, if_pos rfl]
    refine Res_no (r := 550) (c1 := y) (m1 := sI (sL m (20, 0) 35 nm) (20, 0) 34 pin) ?_ ?_ (Y_pl hy hz) (by decide) rfl lo_pl
    · rw [r_makeDirectory, f2, if_pos rfl]
    · rw [m_change, if_neg (by decide), if_neg (by decide), if_pos rfl, m_makeDirectory, free_eq hn, Option.bind_some, g2', Option.bind_some, if_pos rfl]; rfl
  | some p =>
    obtain ⟨q1, q2, q3, q4, q5⟩ := f4 p rfl
    obtain ⟨rfl, rfl⟩ := g3 (fun z => by cases z)
    have f3' := f3 (fun z => by cases z)
    have g2' : m_findPlace m = some ((1 : Int32), sI (sL m (20, 0) 35 (lN v)) (20, 0) 34 (on (some p))) := by rw [g2, if_neg (fun z => by cases z)]
    generalize em1 : sI (sL m (20, 0) 35 (lN v)) (20, 0) 34 (on (some p)) = m1 at g2'
    have a34 : gI m1 (20, 0) 34 = nI p := by rw [← em1]; rfl
    have a35 : gL m1 (20, 0) 35 = lN v := by rw [← em1]; rfl
    have hy1 : RelY y m1 := by rw [← em1]; exact Y_pl hy hz
    have hl1 : LG y m1 r q := by rw [← em1]; exact hl
    have hz1 : gI m1 (20, 0) 28 = 0 := by rw [← em1]; exact hz
    have lo1 : loP m1 = loP m := by rw [← em1]; exact lo_pl
    have q21 : gI m1 (21, 0) p = 1 := by rw [← em1]; exact q2
    have q31 : under m1 p r := by rw [← em1]; exact q3
    have ch : m_child (nI p) (lN v) m1 = some (on E) := by
      rw [(child_eq hy1.2.2.1 q1).2, q4, ← em1]
      rfl
    have hfr1 : ffi (frB m1) 24 = ffi (frB m) 24 := by rw [← em1]; rfl
    have tw : ∀ z, m_freeNode m = some z → m_change (8 : Int32) m = ((if 0 ≤ on E then some ((550 : Int32), m1) else if z = (24 : Int32) then some ((550 : Int32), m1) else (m_make z (1 : Int32) (nI p) (lN v) m1).bind fun y7 => (m_writeWay z y7).bind fun y8 => some ((257 : Int32), y8)).bind fun y38 => some (y38.1, y38.2)) := fun z hzz => by
      rw [m_change, if_neg (by decide), if_neg (by decide), if_pos rfl, m_makeDirectory, hzz, Option.bind_some, g2', Option.bind_some, if_neg one_ne, a34, a35, ch, Option.bind_some]
    cases E with
    | some e =>
      have := (ok e rfl).1
      refine Res_no (r := 550) (c1 := y) (m1 := m1) ?_ ?_ hy1 (by decide) rfl lo1
      · rw [r_makeDirectory, f2, if_neg (fun z => by cases z), f1, if_neg (fun z => by cases z)]
      · rw [tw _ (free_eq hn), if_pos (by rw [on_s]; exact nI_pos' (by omega)), Option.bind_some]
    | none =>
      cases hfr : ffi (frB m) 24 with
      | none =>
        refine Res_no (r := 550) (c1 := y) (m1 := m1) ?_ ?_ hy1 (by decide) rfl lo1
        · rw [r_makeDirectory, f2, if_neg (fun z => by cases z), f1, if_pos rfl, f3', add_eq hn (Or.inr rfl), hfr, Option.bind_some, if_pos rfl]
        · rw [tw _ (free_eq hn), if_neg (by rw [on_n]; decide), hfr, if_pos (show nI ((none : Option Nat).getD 24) = 24 from rfl), Option.bind_some]
      | some k =>
        obtain ⟨k1, k2⟩ := fr_some hfr
        have k21 : gI m1 (21, 0) k = 0 := by rw [← em1]; exact k2
        obtain ⟨l1, l2, l3, l4, l5, l6, l7, l8, l9, l10⟩ := hl1
        obtain ⟨hs, hw, hn1, hd, ha, hg, he, hk⟩ := hy1
        obtain ⟨b1, b2, b3, b4⟩ := add_N (kd := 1) (dir := 1) (nm := lN v) ⟨hn1, hd, ha, hg⟩ k1 k21 q1 q21 q5 (Or.inl ⟨rfl, rfl⟩) rfl rfl
        obtain ⟨u1, u2, u3⟩ := add_under (kd := 1) (nm := lN v) hn1 k21 q1 q21 l1 l7 l8 q31 rfl
        generalize em2 : sI (sL (sI (sI m1 (21, 0) k (1 : Int32)) (22, 0) k (nI p)) (23, 0) k (lN v)) (24, 0) k (0 : Int32) = m2 at b1 b2 b3 b4 u1 u2 u3
        have hm2 : rMem y m2 := rMem_k he (by rw [← em2]; rfl) (by rw [← em2]; rfl) (by rw [← em2]; rfl) (fun i h => by rw [hf] at h; cases h)
        have hk2 : rCar y m2 := rCar_z hk hz1 (by rw [← em2]; rfl)
        have hs2 : rSt y m2 := by rw [← em2]; exact hs
        have hw2 : rWay y m2 := by rw [← em2]; exact hw
        have hy2 : RelY (sI (sL (sR (sI y (5, k) 2 (1 : Int32)) (5, k) 5 (some p)) (5, k) 4 (lN v)) (5, k) 3 (1 : Int32)) m2 := ⟨hs2, hw2, b1, b2, b3, b4, hm2, hk2⟩
        obtain ⟨c3, m3, w1, w2, w3, w4, w5⟩ := way_eq hy2 k1 (by rw [u3]; decide) u2 (by rw [← em2]; exact l4) u1
        have lo2 : loP m2 = loP m1 := by
          rw [← em2]; simp (disch := decide) only [loP_sI, loP_sL]
        refine ⟨257, c3, m3, ?_, ?_, Y_W (Y_M hy2 w4) w5, fun _ => w3, ?_, ?_⟩
        · rw [r_makeDirectory, f2, if_neg (fun z => by cases z), f1, if_pos rfl, f3', add_eq hn (Or.inr rfl), hfr, Option.bind_some, if_neg (fun z => by cases z), w1, Option.bind_some]
        · rw [tw _ (free_eq hn), if_neg (by rw [on_n]; decide), hfr, show (some k).getD 24 = k from rfl, if_neg (by rw [show (24 : Int32) = nI 24 from rfl]; exact fun z => absurd ((nI_eq (by omega) (by decide)).mp z) (by omega)), m_make, gB k1 (by decide), gB k1 (by decide), gB k1 (by decide), gB k1 (by decide), clI (by omega), em2, Option.bind_some, w2, Option.bind_some, Option.bind_some]
        · rw [npM_hi w4]
          simp (disch := decide) only [hiP_sI, hiP_sL, hiP_sR]
        · rw [npW_lo w5, lo2, lo1]
theorem under_dir {c m : Hp} {i : Nat} (hn : rNs c m) : ∀ {n p : Nat}, p < 24 → gI m (21, 0) p = 1 → up (par m) n p = i → gI m (21, 0) i = 1
  | 0, p, _, h1, h2 => by
    have : p = i := h2
    rw [← this]; exact h1
  | n + 1, p, h0, h1, h2 => by
    obtain ⟨p1, -, p3, -, -⟩ := rP_par (rN_P (hn p h0) (by rw [h1]; decide)) h0
    exact under_dir hn p1 p3 h2
theorem rnto_eq {y m : Hp} {n r q v : Nat} {E P : Option Nat} (hc : CX y m n r q) (hb : rRen m (gR y (14, 0) 2) (gI m (20, 0) 23)) (hp : PF y m r v E P) (hm : MF m n v E P) : Res (r_renameTo y) (m_change (13 : Int32) m) y m := by
  obtain ⟨hy, hl, hz, hf, h9⟩ := id hc
  obtain ⟨f1, f2, f3, ok, f4⟩ := hp
  obtain ⟨g1, nm, pin, g2, g3⟩ := hm
  have hn := hy.2.2.1
  rcases hb with ⟨i1, i2⟩ | ⟨i, i1, i2, i3, i4, i5⟩
  · refine Res_no (r := 503) (c1 := y) (m1 := m) ?_ ?_ hy (by decide) rfl rfl
    · rw [r_renameTo, i1, if_pos rfl]
    · rw [m_change, if_neg (by decide), if_neg (by decide), if_neg (by decide), if_pos rfl, m_rename, i2, if_neg (by decide), Option.bind_some]
  · have i6 : 0 ≤ nI i := nI_pos' (by omega)
    cases P with
    | none =>
      have g2' : m_findPlace m = some ((0 : Int32), sI (sL m (20, 0) 35 nm) (20, 0) 34 pin) := by rw [g2, if_pos rfl]
      refine Res_no (r := 553) (c1 := y) (m1 := sI (sL m (20, 0) 35 nm) (20, 0) 34 pin) ?_ ?_ (Y_pl hy hz) (by decide) rfl lo_pl
      · rw [r_renameTo, i2, if_neg (fun z => by cases z), f2, if_pos rfl]
      · rw [m_change, if_neg (by decide), if_neg (by decide), if_neg (by decide), if_pos rfl, m_rename, i3, if_pos i6, g2', Option.bind_some, if_pos rfl]; rfl
    | some p =>
      obtain ⟨q1, q2, q3, q4, q5⟩ := f4 p rfl
      obtain ⟨rfl, rfl⟩ := g3 (fun z => by cases z)
      have f3' := f3 (fun z => by cases z)
      have g2' : m_findPlace m = some ((1 : Int32), sI (sL m (20, 0) 35 (lN v)) (20, 0) 34 (on (some p))) := by rw [g2, if_neg (fun z => by cases z)]
      generalize em1 : sI (sL m (20, 0) 35 (lN v)) (20, 0) 34 (on (some p)) = m1 at g2'
      have a34 : gI m1 (20, 0) 34 = nI p := by rw [← em1]; rfl
      have a35 : gL m1 (20, 0) 35 = lN v := by rw [← em1]; rfl
      have hy1 : RelY y m1 := by rw [← em1]; exact Y_pl hy hz
      have hl1 : LG y m1 r q := by rw [← em1]; exact hl
      have hz1 : gI m1 (20, 0) 28 = 0 := by rw [← em1]; exact hz
      have lo1 : loP m1 = loP m := by rw [← em1]; exact lo_pl
      have q21 : gI m1 (21, 0) p = 1 := by rw [← em1]; exact q2
      have q31 : under m1 p r := by rw [← em1]; exact q3
      have i41 : gI m1 (21, 0) i ≠ 0 := by rw [← em1]; exact i4
      have i51 : gI m1 (22, 0) i ≠ nI i := by rw [← em1]; exact i5
      have ch : m_child (nI p) (lN v) m1 = some (on E) := by
        rw [(child_eq hy1.2.2.1 q1).2, q4, ← em1]
        rfl
      have tw : m_change (13 : Int32) m = ((if 0 ≤ on E then some ((553 : Int32), m1) else if gI m1 (21, 0) i = (1 : Int32) then (m_liesIn (nI p) (nI i) m1).bind fun y8 => if y8 = 0 then m_rename_j61 (nI i) m1 else some ((553 : Int32), m1) else m_rename_j61 (nI i) m1).bind fun y37 => some (y37.1, y37.2)) := by
        rw [m_change, if_neg (by decide), if_neg (by decide), if_neg (by decide), if_pos rfl, m_rename, i3, if_pos i6, g2', Option.bind_some, if_neg one_ne, a34, a35, ch, Option.bind_some, gB i1 (by decide), clI (by omega)]
      cases E with
      | some e =>
        have := (ok e rfl).1
        refine Res_no (r := 553) (c1 := y) (m1 := m1) ?_ ?_ hy1 (by decide) rfl lo1
        · rw [r_renameTo, i2, if_neg (fun z => by cases z), f2, if_neg (fun z => by cases z), f1, if_neg (fun z => by cases z)]
        · rw [tw, if_pos (by rw [on_s]; exact nI_pos' (by omega)), Option.bind_some]
      | none =>
        obtain ⟨l1, l2, l3, l4, l5, l6, l7, l8, l9, l10⟩ := id hl1
        obtain ⟨hs, hw, hn1, hd, ha, hg, he, hk⟩ := id hy1
        have hr := par_nI l8 l1
        obtain ⟨D, wD⟩ := way_of hn1 q1 (by rw [q21]; decide) hr q31
        have hD := (way_D hd wD).1
        obtain ⟨t, t1, t2⟩ := lies_c (i := i) hn1 wD hr hD
        obtain ⟨u, u1, u2⟩ := lies_m hn1 i1 wD hr hD
        have tw2 : (if gI m1 (21, 0) i = (1 : Int32) then (m_liesIn (nI p) (nI i) m1).bind fun y8 => if y8 = 0 then m_rename_j61 (nI i) m1 else some ((553 : Int32), m1) else m_rename_j61 (nI i) m1) = if t = 0 then m_rename_j61 (nI i) m1 else some ((553 : Int32), m1) := by
          by_cases kd : gI m1 (21, 0) i = 1
          · rw [if_pos kd, u1, Option.bind_some]
            rcases t2 with ⟨a, b⟩ | ⟨a, b⟩
            · rcases u2 with ⟨a2, b2⟩ | ⟨a2, b2⟩
              · rw [a, a2]
              · exact absurd b b2
            · rcases u2 with ⟨a2, b2⟩ | ⟨a2, b2⟩
              · exact absurd b2 b
              · rw [a, a2]
          · rw [if_neg kd]
            rcases t2 with ⟨a, ⟨n2, b⟩⟩ | ⟨a, b⟩
            · exact absurd (under_dir hn1 q1 q21 b) kd
            · rw [if_pos a]
        rw [tw2] at tw
        rcases t2 with ⟨a, b⟩ | ⟨a, b⟩
        · refine Res_no (r := 553) (c1 := y) (m1 := m1) ?_ ?_ hy1 (by decide) rfl lo1
          · rw [r_renameTo, i2, if_neg (fun z => by cases z), f2, if_neg (fun z => by cases z), f1, if_pos rfl, t1, Option.bind_some, a, if_neg (by decide)]
          · rw [tw, if_neg (by rw [on_n]; decide), a, if_neg (by decide), Option.bind_some]
        · obtain ⟨b1, b2, b3, b4⟩ := ren_N (nm := lN v) ⟨hn1, hd, ha, hg⟩ i1 i41 i51 q1 q21 q5 b (fun r' q' l => by
            have : r' = r := by
              have h1 := l.2.2.1
              rw [l3] at h1
              cases h1; rfl
            rw [this]; exact q31) rfl rfl
          refine Res_no (r := 250) (c1 := sL (sR y (5, i) 5 (some p)) (5, i) 4 (lN v)) (m1 := sL (sI m1 (22, 0) i (nI p)) (23, 0) i (lN v)) ?_ ?_ ⟨hs, hw, b1, b2, b3, b4, rMem_k (c := y) he rfl rfl rfl (fun i h => by rw [hf] at h; cases h), rCar_z hk hz1 rfl⟩ (by decide) ?_ ?_
          · have e8 : gL (sR y (5, i) 5 (some p)) (8, 0) 6 = lN v := f3'
            rw [r_renameTo, i2, if_neg (fun z => by cases z), f2, if_neg (fun z => by cases z), f1, if_pos rfl, t1, Option.bind_some, a, if_pos rfl, nd24 i1, Option.bind_some, e8]
          · have e8 : gL (sI m1 (22, 0) i (nI p)) (20, 0) 35 = lN v := a35
            rw [tw, if_neg (by rw [on_n]; decide), a, if_pos rfl, m_rename_j61, gB i1 (by decide), gB i1 (by decide), clI (by omega), a34, e8, Option.bind_some]
          · simp (disch := decide) only [hiP_sI, hiP_sL, hiP_sR]
          · rw [← lo1]; simp (disch := decide) only [loP_sI, loP_sL]
