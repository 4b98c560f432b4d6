/-! the way spelled backwards -/
theorem npM_R {c c' : Hp} (h : npM c' = npM c) (a : Ad) (s : Nat) : gR c' a s = gR c a s := by
  have e : gR (npM c') a s = gR (npM c) a s := by rw [h]
  exact e
theorem npM_L {c c' : Hp} (h : npM c' = npM c) (a : Ad) (s : Nat) : gL c' a s = gL c a s := by
  have e : gL (npM c') a s = gL (npM c) a s := by rw [h]
  exact e
theorem rP_nm {c m : Hp} {i : Nat} (h : rP c m i) (hi : i < 24) (hp : par m i ≠ i) : gL c (5, i) 4 = lN (nn m i) ∧ nn m i < 2 ^ 48 := by
  rcases h with ⟨h1, h2, h3⟩ | ⟨p, h1, h2, h3, h4, h5, h6, h7⟩
  · exact absurd (par_nI h2 hi) hp
  · obtain ⟨a, b, d⟩ := wf_nn h7
    exact ⟨by rw [h6, a], d⟩
theorem spell_eq {c m : Hp} {t r D : Nat} (hn : rNs c m) (hw : way c m t r D) (hr : par m r = r) (hD : D < 24) : ∃ c', msg_spellPath (some t) c = some c' ∧ MSt c' (if D = 0 then [47] else wy m D t) ∧ npM c' = npM c := by
  have h0 : MSt (sI c (10, 0) 1 (168 : Int32)) [] := ⟨by simp, rfl, fun j hj => by cases hj⟩
  have hlen := wy_len m D t
  have key : ∃ x, iter msg_spellPath_l13 FU (some t, (0 : Int32), sI c (10, 0) 1 (168 : Int32)) = some x ∧ MSt x.2.2 (wy m D t) ∧ npM x.2.2 = npM c := by
    refine iterN (P := fun w st => ∃ q c' L, st = (some (up (par m) q t), nI q, c') ∧ q + w = D ∧ wy m (D - q) (up (par m) q t) ++ L = wy m D t ∧ MSt c' L ∧ npM c' = npM c) ?_ FU D _ ⟨0, _, [], rfl, by omega, by rw [List.append_nil]; rfl, h0, npM_sI (Or.inl rfl)⟩ (by show D < 1000; omega)
    rintro w st ⟨q, c', L, rfl, h1, h2, h3, h4⟩
    obtain ⟨q1, q2, q3⟩ := hw.2 q (by omega)
    have hj := hn _ q1
    obtain ⟨p1, p2, p3, p4, p5⟩ := rP_par (rN_P hj q2) q1
    have c1 : ¬ (some (up (par m) q t) = (none : Option Nat)) := fun z => by cases z
    rw [msg_spellPath_l13, if_neg (by rw [show (24 : Int32) = nI 24 from rfl, nle (by omega) (by omega)]; omega), if_neg c1, nd24 q1, Option.bind_some, npM_R h4]
    by_cases g : q = D
    · left
      subst g
      rw [if_pos (p4.mpr (by rw [hw.1]; exact hr))]
      refine ⟨_, rfl, ?_, h4⟩
      rw [← h2, Nat.sub_self]; exact h3
    · right
      have hne := q3 (by omega)
      obtain ⟨n1, n2⟩ := rP_nm (rN_P hj q2) q1 hne
      have hs : wy m (D - q) (up (par m) q t) = wy m (D - (q + 1)) (up (par m) (q + 1) t) ++ (47 :: nr (nn m (up (par m) q t)) 6) := by
        rw [show D - q = (D - (q + 1)) + 1 by omega, wy, up_succ]
      have hl : (wy m (D - (q + 1)) (up (par m) (q + 1) t)).length + (1 + (nr (nn m (up (par m) q t)) 6).length) + L.length ≤ 7 * D := by
        rw [← h2, hs] at hlen
        simp only [List.length_append, List.length_cons] at hlen
        omega
      obtain ⟨c2, e1, e2, e3⟩ := putName_eq (y := nn m (up (par m) q t)) (by omega) h3 (by omega)
      obtain ⟨c3, f1, f2, f3⟩ := putBefore_eq (b := 47) e2 (by rw [List.length_append]; omega) (by decide)
      rw [if_neg (fun z => hne (p4.mp z)), npM_L h4, n1, e1, Option.bind_some, show (47 : Int32) = nI 47 from rfl, f1, Option.bind_some, npM_R (by rw [f3, e3, h4] : npM c3 = npM c), p5 hne, nI_1]
      refine ⟨_, w - 1, by omega, rfl, q + 1, c3, _, by rw [up_succ], by omega, ?_, f2, by rw [f3, e3, h4]⟩
      rw [← h2, hs, List.append_assoc]; rfl
  obtain ⟨x, e, k1, k2⟩ := key
  have hx : gI x.2.2 (10, 0) 1 = nI (168 - (wy m D t).length) := k1.2.1
  rw [msg_spellPath, e, Option.bind_some, hx]
  have e1 : (nI (168 - (wy m D t).length) = (168 : Int32)) = ((wy m D t).length = 0) := by
    have := neq (n := 168 - (wy m D t).length) (k := 168) (by decide) (by omega)
    rw [show (168 : Int32) = nI 168 from rfl, this]
    exact propext (by omega)
  simp only [e1]
  by_cases z : D = 0
  · subst z
    rw [if_pos (show (wy m 0 t).length = 0 from rfl), if_pos rfl]
    obtain ⟨c3, f1, f2, f3⟩ := putBefore_eq (b := 47) k1 (by show 0 < 168; decide) (by decide)
    exact ⟨c3, by rw [show (47 : Int32) = nI 47 from rfl, f1]; rfl, f2, by rw [f3, k2]⟩
  · have hpos : (wy m D t).length ≠ 0 := by
      rw [show D = (D - 1) + 1 by omega, wy, List.length_append, List.length_cons]
      omega
    rw [if_neg hpos, if_neg z]
    exact ⟨x.2.2, rfl, k1, k2⟩
