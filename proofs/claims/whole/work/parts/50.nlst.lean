/-! RETR; what NLST gives -/
theorem retr_eq {y m : Hp} {n r q v a : Nat} {E P : Option Nat} (hc : CX y m n r q) (ho : gI m (20, 0) 12 = 1) (hb : ∃ z, z < 1000 ∧ gI y (14, 0) 0 = nI z ∧ gI m (20, 0) 24 = nI z) (hp : PF y m r v E P) (hm : MF m n v E P) (hf11 : gI m (20, 0) 11 = nI a) (ha : a < 2 ^ 31) : Res (r_retrieve y) (m_transferBy (19 : Int32) m) y m := by
  obtain ⟨hy, hl, hz, hf, h9⟩ := id hc
  obtain ⟨f1, f2, f3, ok, f4⟩ := hp
  obtain ⟨g1, -⟩ := hm
  have hn := hy.2.2.1
  have tw : m_transferBy (19 : Int32) m = if on E < 0 then some ((550 : Int32), m) else guardB (on E) 24 (if (gI m (21, 0) (on E).toNatClampNeg) = (2 : Int32) then guardB (on E) 24 (if (gI m (24, 0) (on E).toNatClampNeg) < (gI m (20, 0) 24) then some ((550 : Int32), m) else m_transferBy_j56 19 (on E) m) else some ((550 : Int32), m)) := by
    rw [m_transferBy, hf11, if_pos (nI_pos' ha), h9, g1, Option.bind_some, Option.bind_some, if_pos rfl]
  cases E with
  | none =>
    refine Res_no (r := 550) (c1 := y) (m1 := m) ?_ ?_ hy (by decide) rfl rfl
    · rw [r_retrieve, f1, if_pos rfl]
    · rw [tw, on_n, if_pos (by decide)]
  | some i =>
    obtain ⟨o1, o2, o3⟩ := ok i rfl
    rw [on_s, if_neg (nI_pos (by omega)), gB o1 (by decide), gB o1 (by decide), clI (by omega)] at tw
    rcases kd_of hn o1 o2 with ⟨k1, k2⟩ | ⟨k1, k2⟩
    · refine Res_no (r := 550) (c1 := y) (m1 := m) ?_ ?_ hy (by decide) rfl rfl
      · rw [r_retrieve, f1, if_neg (fun z => by cases z), nd24 o1, Option.bind_some, k2, if_neg (by decide)]
      · rw [tw, k1, if_neg (by decide)]
    · obtain ⟨zr, zr1, zr2, zr3⟩ := hb
      obtain ⟨z, z1, z2, z3, z4⟩ : ∃ z, z ≤ 32 ∧ gI y (5, i) 1 = nI z ∧ gI m (24, 0) i = nI z ∧ ∀ j, j < z → gI y (6, i) j = gI m (25, 0) (32 * i + j) ∧ isB (gI m (25, 0) (32 * i + j)) := by
        rcases hn i o1 with h | h | h
        · rw [k1] at h; exact absurd h.1 (by decide)
        · rw [k1] at h; exact absurd h.1 (by decide)
        · exact h.2.2.2.1
      have e1 : (nI zr ≤ nI z) = (zr ≤ z) := nle (by omega) (by omega)
      have e2 : (nI z < nI zr) = (z < zr) := nlt (by omega) (by omega)
      have cw : r_retrieve y = if zr ≤ z then ((r_dataConnects y).bind fun y5 => if y5.1 = 0 then some ((425 : Int32), y5.2) else (if (gI y5.2 (0, 0) 12) = 0 then some (1 : Int32) else some (0 : Int32)).bind fun t8 => (cargo_giveFile (gR y (8, 0) 4) (gI y5.2 (14, 0) 0) t8 y5.2).bind fun y9 => some ((150 : Int32), y9)) else some ((550 : Int32), y) := by
        rw [r_retrieve, f1, if_neg (show ¬ (some i : Option Nat) = none from fun z => by cases z), nd24 o1, Option.bind_some, k2, if_pos rfl, zr2, z2]
        simp only [e1]
      rw [k1, if_pos rfl, z3, zr3] at tw
      simp only [e2] at tw
      by_cases g : zr ≤ z
      · rw [if_pos g] at cw
        rw [if_neg (by omega), m_transferBy_j56, if_neg (by decide), m_transferBy_j80, if_neg (by decide), if_neg (by decide), m_transferBy_j120, if_pos (nI_pos' (by omega))] at tw
        obtain ⟨t, c1, t1, ⟨rfl, rfl, t2⟩ | ⟨rfl, rfl, t2⟩⟩ := conn_eq hy.2.1 hy.1.2.2.2
        · have j173 : m_transferBy_j173 19 (nI i) m = (m_loadFile (nI i) (sI (sI (sI (sI (sI m (20, 0) 28 (1 : Int32)) (20, 0) 29 (0 : Int32)) (20, 0) 30 (0 : Int32)) (20, 0) 32 (nI i)) (20, 0) 33 (0 : Int32))).bind fun t34 => some ((150 : Int32), t34) := by
            rw [m_transferBy_j173, if_pos rfl, Option.bind_some, if_neg (by decide), Option.bind_some, gZ0, if_pos rfl]
            cases m_loadFile (nI i) (sI (sI (sI (sI (sI m (20, 0) 28 (1 : Int32)) (20, 0) 29 (0 : Int32)) (20, 0) 30 (0 : Int32)) (20, 0) 32 (nI i)) (20, 0) 33 (0 : Int32)) <;> rfl
          obtain ⟨hs, hw, hn, hd, hac, hg, he, hk⟩ := hy
          have k0 : gI c1 (12, 0) 2 = 0 ∧ gI c1 (12, 0) 3 = 0 := by
            rcases hk.2 with h | h | h
            · exact h.2
            · rw [hz] at h; exact absurd h.1 (by decide)
            · rw [hz] at h; exact absurd h.1 (by decide)
          generalize em0 : sI (sI (sI (sI (sI m (20, 0) 28 (1 : Int32)) (20, 0) 29 (0 : Int32)) (20, 0) 30 (0 : Int32)) (20, 0) 32 (nI i)) (20, 0) 33 (0 : Int32) = m0 at j173
          have h24 : gI m0 (20, 0) 24 = nI zr := by rw [← em0]; exact zr3
          have hX : RelX c1 m0 := by rw [← em0]; exact ⟨hs, hw, hn, hd, hac, hg, he⟩
          have lo0 : loP m0 = loP m := by rw [← em0]; simp (disch := decide) only [loP_sI, loP_sL]
          obtain ⟨c2, m2, L, x1, x2, x3, x4, x5, x6, x7⟩ := file_load (c := c1) (m := m0) (rr := zr) o1 z1 z2 (by rw [← em0]; exact z3) (by rw [← em0]; exact z4) g k0.1 (by rw [← em0]; rfl)
          have s24 : sI m0 (20, 0) 24 (nI zr) = m0 := by rw [← h24, sI_same]
          rw [s24] at x2 x4
          have e18 : gI m0 (20, 0) 18 = gI c1 (0, 0) 12 := by rw [← em0]; exact hs.2.2.1.1.symm
          refine Res_no (r := 150) (c1 := c2) (m1 := m2) ?_ ?_ (give_Y (c := sI c1 (12, 0) 1 (1 : Int32)) (m := m0) (L := L) hX rfl k0.2 (by rw [← em0]; rfl) (by rw [← em0]; exact ho) (by rw [← em0]; rfl) x3 x4 x5 x6 x7) (by decide) ?_ ?_
          · have ei : (if gI c1 (0, 0) 12 = 0 then some (1 : Int32) else some (0 : Int32)) = some (if gI m0 (20, 0) 18 = 0 then (1 : Int32) else 0) := by
              rw [e18]
              by_cases q : gI c1 (0, 0) 12 = 0
              · rw [if_pos q, if_pos q]
              · rw [if_neg q, if_neg q]
            rw [cw, t1, Option.bind_some, if_neg one_ne, ei, Option.bind_some, f1, zr2, x1, Option.bind_some]
          · rw [tw, t2, j173, x2, Option.bind_some]
          · rw [npC_hi x3]; simp (disch := decide) only [hiP_sI, hiP_sL, hiP_sR]
          · rw [npL_lo x4, lo0]
        · refine Res_no (r := 425) (c1 := sR y (0, 0) 13 (some 0)) (m1 := sI m (20, 0) 25 (0 : Int32)) ?_ ?_ (Y_425 hy) (by decide) ?_ ?_
          · rw [cw, t1, Option.bind_some, if_pos rfl]
          · rw [tw, t2]
          · simp (disch := decide) only [hiP_sI, hiP_sL, hiP_sR]
          · simp (disch := decide) only [loP_sI, loP_sL]
      · refine Res_no (r := 550) (c1 := y) (m1 := m) ?_ ?_ hy (by decide) rfl rfl
        · rw [cw, if_neg g]
        · rw [tw, if_pos (by omega)]
/-- the signs of a name are not broken by a 0 -/
def wfB (x : Nat) : Prop := ∃ b n, n ≤ 6 ∧ okn b n = true ∧ x = nmv b n ∧ ∀ j, j < n → b j < 256
theorem wf_B {m : Hp} {j : Nat} (h : wfN (gL m (23, 0) j)) : ∃ b n, 1 ≤ n ∧ n ≤ 6 ∧ okn b n = true ∧ nn m j = nmv b n := by
  obtain ⟨b, n, h1, h2, h3, h4⟩ := h
  have hb : ∀ i, i < n → b i < 256 := fun i hi => by
    have := sg_ne (okn_iff.mp h3 i hi)
    omega
  have := nmv_lt h2 hb
  refine ⟨b, n, h1, h2, h3, ?_⟩
  unfold nn
  rw [h4]
  exact wb_tn (by omega)
theorem bw_stop {b : Nat → Nat} {n j k : Nat} (hn : n ≤ 6) (ho : okn b n = true) (h : bw (nmv b n) (5 - j) = 0) (hj : j < 6) (hk : k ≤ 5 - j) : bw (nmv b n) k = 0 := by
  have hb : ∀ i, i < n → b i < 256 := fun i hi => by
    have := sg_ne (okn_iff.mp ho i hi)
    omega
  have h1 := nmv_bw hn hb hj
  have hjn : ¬ j < n := fun z => by
    rw [h, if_pos z] at h1
    have := sg_ne (okn_iff.mp ho j z)
    omega
  have h2 := nmv_bw (j := 5 - k) hn hb (by omega)
  rw [show 5 - (5 - k) = k by omega, if_neg (by omega)] at h2
  exact h2
theorem nr_nil {x : Nat} : ∀ {q : Nat}, (∀ k, k < q → bw x k = 0) → nr x q = []
  | 0, _ => rfl
  | q + 1, h => by
    rw [nr, if_pos (h q (by omega)), nr_nil fun k hk => h k (by omega)]; rfl
theorem gname_c {c : Hp} {L : List Nat} {b : Nat → Nat} {n : Nat} {o : Option Nat} {v5 : Int32} (hn : n ≤ 6) (ho : okn b n = true) (h : CSt c L) (hl : L.length + 6 ≤ 192) : ∃ x, iter (cargo_giveNames_l31 o (lN (nmv b n)) v5) FU ((0 : Int32), c) = some x ∧ CSt x.2 (L ++ nr (nmv b n) 6) ∧ npC x.2 = npC c := by
  have hb : ∀ i, i < n → b i < 256 := fun i hi => by
    have := sg_ne (okn_iff.mp ho i hi)
    omega
  have hlt := nmv_lt hn hb
  refine iterN (P := fun w st => ∃ q c' X, st = (nI q, c') ∧ q + w = 6 ∧ X ++ nr (nmv b n) (6 - q) = nr (nmv b n) 6 ∧ CSt c' (L ++ X) ∧ npC c' = npC c) ?_ FU 6 _ ⟨0, c, [], rfl, by omega, rfl, by rw [List.append_nil]; exact h, rfl⟩ (by decide)
  rintro w st ⟨q, c', X, rfl, h1, h2, h3, h4⟩
  have e6 : ((6 : Int32) ≤ nI q) = (6 ≤ q) := nle (n := 6) (k := q) (by omega) (by decide)
  rw [cargo_giveNames_l31]
  simp only [e6]
  by_cases g : 6 ≤ q
  · left
    rw [if_pos g]
    have hq : q = 6 := by omega
    subst hq
    have : X = nr (nmv b n) 6 := by rw [← h2]; show X = X ++ []; rw [List.append_nil]
    exact ⟨_, rfl, by rw [← this]; exact h3, h4⟩
  · have hbw := bw_lt (nmv b n) (5 - q)
    have hX : X.length + (nr (nmv b n) (6 - q)).length ≤ 6 := by
      rw [← List.length_append, h2]; exact nr_len _ 6
    have hs : nr (nmv b n) (6 - q) = (if bw (nmv b n) (5 - q) = 0 then [] else [bw (nmv b n) (5 - q)]) ++ nr (nmv b n) (6 - (q + 1)) := by
      rw [show 6 - q = (5 - q) + 1 by omega, nr, show 6 - (q + 1) = 5 - q by omega]
    rw [if_neg g, signOf_eq (by omega) (by omega), Option.bind_some]
    by_cases z : bw (nmv b n) (5 - q) = 0
    · left
      rw [z, if_pos (show nI 0 = 0 from rfl)]
      have hnil : nr (nmv b n) (6 - q) = [] := nr_nil fun k hk => bw_stop hn ho z (by omega) (by omega)
      rw [hnil, List.append_nil] at h2
      exact ⟨_, rfl, by rw [← h2]; exact h3, h4⟩
    · right
      rw [hs, if_neg z] at hX
      obtain ⟨c2, e1, e2, e3⟩ := cadd_eq (b := bw (nmv b n) (5 - q)) h3 (by rw [List.length_append]; rw [List.length_append] at hX; simp at hX; omega)
      rw [if_neg (nI_ne0 (by omega) (by omega)), Option.bind_some, e1, Option.bind_some, nI_1]
      refine ⟨_, w - 1, by omega, rfl, q + 1, c2, X ++ [bw (nmv b n) (5 - q)], rfl, by omega, ?_, ?_, by rw [e3, h4]⟩
      · rw [hs, if_neg z] at h2
        rw [List.append_assoc]; exact h2
      · rw [← List.append_assoc]; exact e2
theorem gname_m {m : Hp} {L : List Nat} {y : Nat} {v1 v4 : Int32} (h4 : ¬ v4 = 0) (h : LSt m L) (hl : L.length + 6 ≤ 200) : ∃ x, iter (m_loadNames_l128 v1 v4 (lN y)) FU ((5 : Int32), m) = some x ∧ LSt x.2 (L ++ nr y 6) ∧ npL x.2 = npL m := by
  refine iterN (P := fun w st => ∃ q m' X, st = (if q = 6 then -1 else nI (5 - q), m') ∧ q + w = 6 ∧ X ++ nr y (6 - q) = nr y 6 ∧ LSt m' (L ++ X) ∧ npL m' = npL m) ?_ FU 6 _ ⟨0, m, [], rfl, by omega, rfl, by rw [List.append_nil]; exact h, rfl⟩ (by decide)
  rintro w st ⟨q, m', X, rfl, h1, h2, h3, h4'⟩
  rw [m_loadNames_l128]
  by_cases g : q = 6
  · left
    subst g
    rw [if_pos (by decide)]
    have : X = nr y 6 := by rw [← h2]; show X = X ++ []; rw [List.append_nil]
    exact ⟨_, rfl, by rw [← this]; exact h3, h4'⟩
  · right
    have hq : (if q = 6 then (-1 : Int32) else nI (5 - q)) = nI (5 - q) := if_neg g
    have hn : nI (5 - q) + (-1 : Int32) = (if q + 1 = 6 then (-1 : Int32) else nI (5 - (q + 1))) := by
      rcases (show q = 0 ∨ q = 1 ∨ q = 2 ∨ q = 3 ∨ q = 4 ∨ q = 5 by omega) with rfl | rfl | rfl | rfl | rfl | rfl <;> decide
    have hb := bw_lt y (5 - q)
    have hX : X.length + (nr y (6 - q)).length ≤ 6 := by
      rw [← List.length_append, h2]; exact nr_len y 6
    have hs : nr y (6 - q) = (if bw y (5 - q) = 0 then [] else [bw y (5 - q)]) ++ nr y (6 - (q + 1)) := by
      rw [show 6 - q = (5 - q) + 1 by omega, nr, show 6 - (q + 1) = 5 - q by omega]
    rw [hq, if_neg (nI_pos (by omega)), if_neg h4, byM' (by omega), hn]
    by_cases z : bw y (5 - q) = 0
    · rw [z, if_pos (show lN 0 = 0 from rfl)]
      refine ⟨_, w - 1, by omega, rfl, q + 1, m', X, rfl, by omega, ?_, h3, h4'⟩
      rw [hs, if_pos z] at h2
      exact h2
    · have c2 : ¬ lN (bw y (5 - q)) = (0 : Int64) := fun p => z ((lN_inj (b := 0) (by omega) (by decide)).mp p)
      rw [hs, if_neg z] at hX
      obtain ⟨m2, e1, e2, e3⟩ := mput_eq (b := bw y (5 - q)) h3 (by rw [List.length_append]; rw [List.length_append] at hX; simp at hX; omega)
      rw [if_neg c2, lN_i, e1]
      refine ⟨_, w - 1, by omega, rfl, q + 1, m2, X ++ [bw y (5 - q)], rfl, by omega, ?_, ?_, by rw [e3, h4']⟩
      · rw [hs, if_neg z] at h2
        rw [List.append_assoc]; exact h2
      · rw [← List.append_assoc]; exact e2
