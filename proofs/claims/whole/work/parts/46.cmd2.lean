/-! commands that go about the tree: RMD, SIZE, MKD, RNTO -/
theorem rmd_eq {y m : Hp} {n r q v : Nat} {E P : Option Nat} (hc : CX y m n r q) (hp : PF y m r v E P) (hm : MF m n v E P) : Res (r_removeDirectory y) (m_change (9 : Int32) m) y m := by
  obtain ⟨hy, hl, hz, hf, h9⟩ := id hc
  obtain ⟨f1, -, -, ok, -⟩ := hp
  obtain ⟨g1, -⟩ := hm
  obtain ⟨l1, l2, l3, l4, l5, l6, l7, l8, l9, l10⟩ := hl
  have hn := hy.2.2.1
  cases E with
  | none =>
    refine Res_no (r := 550) (c1 := y) (m1 := m) ?_ ?_ hy (by decide) rfl rfl
    · rw [r_removeDirectory, f1, if_pos rfl]
    · unfold m_change; rw [if_neg (by decide), if_neg (by decide), if_neg (by decide), if_neg (by decide), h9, g1, Option.bind_some]; rw [on_n, if_pos (by decide), Option.bind_some, if_neg (by decide), if_pos rfl, if_pos rfl, Option.bind_some, if_pos rfl]
  | some i =>
    obtain ⟨o1, o2, o3⟩ := ok i rfl
    rcases kd_of hn o1 o2 with ⟨k1, k2⟩ | ⟨k1, k2⟩
    · obtain ⟨t, t1, t2⟩ := empty_c hn o1
      obtain ⟨u, u1, u2⟩ := empty_m hn o1
      have e1 : ∀ x, x < 24 → (nI i = nI x) = (i = x) := fun x hx => neq (by omega) (by omega)
      have e2 : ∀ x, ((some i : Option Nat) = some x) = (i = x) := fun x => propext (by simp)
      by_cases bad : i = r ∨ i = q ∨ t = 0
      · refine Res_no (r := 550) (c1 := y) (m1 := m) ?_ ?_ hy (by decide) rfl rfl
        · rw [r_removeDirectory, f1, if_neg (fun z => by cases z), nd24 o1, Option.bind_some, k2, if_neg (by decide), l3, l5, t1]
          simp only [e2, Option.bind_some]
          by_cases a : i = r
          · rw [if_pos a]
          · rw [if_neg a]
            by_cases b : i = q
            · rw [if_pos b]
            · rw [if_neg b, if_pos (by rcases bad with z | z | z; exact absurd z a; exact absurd z b; exact z)]
        · unfold m_change; rw [if_neg (by decide), if_neg (by decide), if_neg (by decide), if_neg (by decide), h9, g1, Option.bind_some]; rw [on_s, if_neg (nI_pos (by omega)), gB o1 (by decide), clI (by omega), k1, if_pos rfl, Option.bind_some, if_neg (by decide), if_pos rfl, if_neg (by decide), u1, l4, l6]
          simp only [e1 r l1, e1 q l2, Option.bind_some]
          have : (if u = 0 then some (0 : Int32) else if i = r then some 0 else if i = q then some 0 else some 1) = some 0 := by
            by_cases a : u = 0
            · rw [if_pos a]
            · rw [if_neg a]
              by_cases b : i = r
              · rw [if_pos b]
              · rw [if_neg b, if_pos]
                rcases bad with z | z | z
                · exact absurd z b
                · exact z
                · exfalso
                  rcases u2 with ⟨_, u2⟩ | ⟨z2, _⟩
                  · rcases t2 with ⟨z3, _⟩ | ⟨_, j, j1, j2⟩
                    · rw [z] at z3; exact absurd z3 (by decide)
                    · exact u2 j j1 j2
                  · exact a z2
          rw [this, Option.bind_some, if_pos rfl]
      · have b1 : i ≠ r := fun z => bad (Or.inl z)
        have b2 : i ≠ q := fun z => bad (Or.inr (Or.inl z))
        have b3 : t ≠ 0 := fun z => bad (Or.inr (Or.inr z))
        have he : ∀ j, j < 24 → ¬ inD m i j := by
          rcases t2 with ⟨_, z⟩ | ⟨z, _⟩
          · exact z
          · exact absurd z b3
        have b4 : u ≠ 0 := by
          rcases u2 with ⟨z, _⟩ | ⟨_, j, j1, j2⟩
          · rw [z]; decide
          · exact absurd j2 (he j j1)
        refine Res_no (r := 250) (c1 := sI (sR (sI y (5, i) 2 (0 : Int32)) (5, i) 5 none) (5, i) 1 (0 : Int32)) (m1 := sI (sI m (20, 0) 20 (-1 : Int32)) (21, 0) i (0 : Int32)) ?_ ?_ (free_Y hc o1 he (not_root o1 o3 b1) (fun z => b2 z.symm)) (by decide) ?_ ?_
        · rw [r_removeDirectory, f1, if_neg (fun z => by cases z), nd24 o1, Option.bind_some, k2, if_neg (by decide), l3, l5, t1, if_neg (by rw [e2]; exact b1), if_neg (by rw [e2]; exact b2), Option.bind_some, if_neg b3]; rfl
        · unfold m_change; rw [if_neg (by decide), if_neg (by decide), if_neg (by decide), if_neg (by decide), h9, g1, Option.bind_some]; rw [on_s, if_neg (nI_pos (by omega)), gB o1 (by decide), clI (by omega), k1, if_pos rfl, Option.bind_some, if_neg (by decide), if_pos rfl, if_neg (by decide), u1, Option.bind_some, if_neg b4, l4, if_neg (by rw [e1 r l1]; exact b1), if_neg (by rw [l6, e1 q l2]; exact b2), Option.bind_some, if_neg (by decide), if_neg (by decide), if_neg (by decide), Option.bind_some, if_neg (by decide), Option.bind_some, if_pos rfl, Option.bind_some, gB o1 (by decide), if_neg (by decide), Option.bind_some, sI_same]
        · simp (disch := decide) only [hiP_sI, hiP_sL, hiP_sR]
        · simp (disch := decide) only [loP_sI, loP_sL]
    · refine Res_no (r := 550) (c1 := y) (m1 := m) ?_ ?_ hy (by decide) rfl rfl
      · rw [r_removeDirectory, f1, if_neg (fun z => by cases z), nd24 o1, Option.bind_some, k2, if_pos rfl]
      · unfold m_change; rw [if_neg (by decide), if_neg (by decide), if_neg (by decide), if_neg (by decide), h9, g1, Option.bind_some]; rw [on_s, if_neg (nI_pos (by omega)), gB o1 (by decide), clI (by omega), k1, if_neg (by decide), Option.bind_some, if_neg (by decide), if_pos rfl, if_pos rfl, Option.bind_some, if_pos rfl]
/-- a number up to 32, told as digits -/
theorem dig_lo : ∀ z, z < 33 → z < 10 → ((48 : Int32) + nI z).toUInt32 % 65536 = (nI (48 + z)).toUInt32 ∧ ((48 : Int32) + (nI z - (nI z / (10 : Int32)) * (10 : Int32))) = nI (48 + z) := by decide +kernel
theorem dig_hi : ∀ z, z < 33 → 10 ≤ z → (((48 : Int32) + (nI z - (nI z / (10 : Int32)) * (10 : Int32))).toUInt32 % 65536).toInt32 = nI (48 + z % 10) ∧ (((48 : Int32) + (nI z / (10 : Int32))).toUInt32 % 65536).toInt32 = nI (48 + z / 10) ∧ ((48 : Int32) + (nI z - (nI z / (10 : Int32)) * (10 : Int32))) = nI (48 + z % 10) ∧ ((48 : Int32) + (nI z / (10 : Int32))) = nI (48 + z / 10) := by decide +kernel
theorem num_c {c : Hp} {z : Nat} (hz : z < 33) : ∃ c', msg_spellNumber (nI z) c = some c' ∧ MSt c' (if z < 10 then [48 + z] else [48 + z / 10, 48 + z % 10]) ∧ npM c' = npM c := by
  have h0 : MSt (sI c (10, 0) 1 (168 : Int32)) [] := ⟨by simp, rfl, fun j hj => by cases hj⟩
  have h1 : npM (sI c (10, 0) 1 (168 : Int32)) = npM c := npM_sI (Or.inl rfl)
  have e10 : (nI z < (10 : Int32)) = (z < 10) := nlt (n := z) (k := 10) (by decide) (by omega)
  unfold msg_spellNumber
  simp only [e10]
  by_cases a : z < 10
  · obtain ⟨c', b1, b2, b3⟩ := putBefore_eq (b := 48 + z) h0 (by decide) (by omega)
    rw [if_pos a, if_pos a, (dig_lo z hz a).1, show (nI (48 + z)).toUInt32.toInt32 = nI (48 + z) from rfl, b1]
    exact ⟨c', rfl, b2, by rw [b3, h1]⟩
  · obtain ⟨d1, d2, -, -⟩ := dig_hi z hz (by omega)
    obtain ⟨c', b1, b2, b3⟩ := putBefore_eq (b := 48 + z % 10) h0 (by decide) (by omega)
    obtain ⟨c2, b4, b5, b6⟩ := putBefore_eq (b := 48 + z / 10) b2 (by show 1 < 168; decide) (by omega)
    rw [if_neg a, if_neg a, d1, d2, b1, Option.bind_some, b4]
    exact ⟨c2, rfl, b5, by rw [b6, b3, h1]⟩
theorem num_m {m : Hp} {i z : Nat} (hz : z < 33) (hi : i < 24) (h : gI m (24, 0) i = nI z) : ∃ m', m_sizeTold (nI i) m = some (213, m') ∧ WSt m' (if z < 10 then [48 + z] else [48 + z / 10, 48 + z % 10]) ∧ npW m' = npW m := by
  have h0 : WSt (sI m (20, 0) 14 (0 : Int32)) [] := ⟨by simp, rfl, fun j hj => by cases hj⟩
  have h1 : npW (sI m (20, 0) 14 (0 : Int32)) = npW m := npW_14
  have e9 : (nI z ≤ (9 : Int32)) = (z < 10) := by
    have := nle (n := z) (k := 9) (by decide) (by omega)
    rw [show (9 : Int32) = nI 9 from rfl, this]
    exact propext (by omega)
  unfold m_sizeTold
  rw [gB hi (by decide), clI (by omega), show gI (sI m (20, 0) 14 (0 : Int32)) (24, 0) i = nI z from h]
  simp only [e9]
  by_cases a : z < 10
  · obtain ⟨c', b1, b2, b3⟩ := write_eq (b := 48 + z) h0 (by decide) (by omega)
    rw [if_pos a, if_pos a, Option.bind_some, (dig_lo z hz a).2, b1]
    exact ⟨c', rfl, b2, by rw [b3, h1]⟩
  · obtain ⟨-, -, d1, d2⟩ := dig_hi z hz (by omega)
    obtain ⟨c', b1, b2, b3⟩ := write_eq (b := 48 + z / 10) h0 (by decide) (by omega)
    obtain ⟨c2, b4, b5, b6⟩ := write_eq (b := 48 + z % 10) b2 (by show 1 < 200; decide) (by omega)
    rw [if_neg a, if_neg a, d1, d2, b1, Option.bind_some, Option.bind_some, b4]
    exact ⟨c2, rfl, b5, by rw [b6, b3, h1]⟩
theorem size_eq {y m : Hp} {n r q v : Nat} {E P : Option Nat} (hc : CX y m n r q) (hp : PF y m r v E P) (hm : MF m n v E P) : Res (r_tellSize y) (m_change (11 : Int32) m) y m := by
  obtain ⟨hy, hl, hz, hf, h9⟩ := id hc
  obtain ⟨f1, -, -, ok, -⟩ := hp
  obtain ⟨g1, -⟩ := hm
  have hn := hy.2.2.1
  cases E with
  | none =>
    refine Res_no (r := 550) (c1 := y) (m1 := m) ?_ ?_ hy (by decide) rfl rfl
    · rw [r_tellSize, f1, if_pos rfl]
    · unfold m_change; rw [if_neg (by decide), if_neg (by decide), if_neg (by decide), if_neg (by decide), h9, g1, Option.bind_some]; rw [on_n, if_pos (by decide), Option.bind_some, if_neg (by decide), if_neg (by decide), if_neg (by decide), if_pos (by decide), Option.bind_some, if_pos rfl]
  | some i =>
    obtain ⟨o1, o2, o3⟩ := ok i rfl
    rcases kd_of hn o1 o2 with ⟨k1, k2⟩ | ⟨k1, k2⟩
    · refine Res_no (r := 550) (c1 := y) (m1 := m) ?_ ?_ hy (by decide) rfl rfl
      · rw [r_tellSize, f1, if_neg (fun z => by cases z), nd24 o1, Option.bind_some, k2, if_neg (by decide)]
      · unfold m_change; rw [if_neg (by decide), if_neg (by decide), if_neg (by decide), if_neg (by decide), h9, g1, Option.bind_some]; rw [on_s, if_neg (nI_pos (by omega)), gB o1 (by decide), clI (by omega), k1, if_pos rfl, Option.bind_some, if_neg (by decide), if_neg (by decide), if_neg (by decide), if_neg (nI_pos (by omega)), if_neg (by decide), Option.bind_some, if_pos rfl]
    · obtain ⟨z, z1, z2, z3⟩ : ∃ z, z ≤ 32 ∧ gI y (5, i) 1 = nI z ∧ gI m (24, 0) i = nI z := by
        rcases hn i o1 with h | h | h
        · rw [k1] at h; exact absurd h.1 (by decide)
        · rw [k1] at h; exact absurd h.1 (by decide)
        · obtain ⟨_, _, _, ⟨z, a1, a2, a3, _⟩, _⟩ := h
          exact ⟨z, a1, a2, a3⟩
      obtain ⟨c', a1, a2, a3⟩ := num_c (c := y) (z := z) (by omega)
      obtain ⟨m', b1, b2, b3⟩ := num_m (m := m) (z := z) (by omega) o1 z3
      refine ⟨213, c', m', ?_, ?_, Y_W (Y_M hy a3) b3, fun _ => txt_of a2 b2 (fun x hx => ?_), npM_hi a3, npW_lo b3⟩
      · rw [r_tellSize, f1, if_neg (fun z => by cases z), nd24 o1, Option.bind_some, k2, if_pos rfl, z2, a1]; rfl
      · unfold m_change; rw [if_neg (by decide), if_neg (by decide), if_neg (by decide), if_neg (by decide), h9, g1, Option.bind_some]; rw [on_s, if_neg (nI_pos (by omega)), gB o1 (by decide), clI (by omega), k1, if_neg (by decide), Option.bind_some, if_neg (by decide), if_neg (by decide), if_neg (by decide), if_neg (nI_pos (by omega)), if_pos rfl, Option.bind_some, if_neg (by decide), if_pos rfl, b1]; rfl
      · by_cases g : z < 10
        · rw [if_pos g, List.mem_singleton] at hx
          omega
        · rw [if_neg g, List.mem_cons, List.mem_singleton] at hx
          omega
