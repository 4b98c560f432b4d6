/-! the twin writes the way forwards -/
theorem npW_22 {m m' : Hp} (h : npW m' = npW m) (j : Nat) : gI m' (22, 0) j = gI m (22, 0) j := by
  have e : gI (npW m') (22, 0) j = gI (npW m) (22, 0) j := by rw [h]
  exact e
theorem wway_eq {c m : Hp} {t r D : Nat} (hn : rNs c m) (hd : rD m) (hw : way c m t r D) (hr : par m r = r) (hro : gI m (20, 0) 16 = nI r) : ∃ m', m_writeWay (nI t) m = some m' ∧ WSt m' (if D = 0 then [47] else wy m D t) ∧ npW m' = npW m := by
  obtain ⟨hD, hne⟩ := way_D hd hw
  have ht : t < 24 := (hw.2 0 (by omega)).1
  have hlen := wy_len m D t
  have h0 : WSt (sI m (20, 0) 14 (0 : Int32)) [] := ⟨by simp, rfl, fun j hj => by cases hj⟩
  have g0 : ∀ v, gI (sI m (20, 0) 14 v) (20, 0) 16 = nI r := fun _ => hro
  have hr24 : r < 24 := by have := (hw.2 D (by omega)).1; rw [hw.1] at this; exact this
  have etr : (nI t = nI r) = (D = 0) := by
    rw [neq (by omega) (by omega)]
    apply propext
    constructor
    · intro e
      by_cases z : D = 0
      · exact z
      · have := (hw.2 0 (by omega)).2.2 (by omega)
        exact absurd (show par m t = t by rw [e]; exact hr) this
    · intro e
      have := hw.1
      rw [e] at this
      exact this
  rw [m_writeWay]
  simp only [g0, etr]
  by_cases z : D = 0
  · rw [if_pos z, if_pos z]
    obtain ⟨m1, e1, e2, e3⟩ := write_eq (b := 47) h0 (by decide) (by decide)
    rw [show (47 : Int32) = nI 47 from rfl, e1]
    have ex : m_writeWay_l24 (nI t) (nI r, m1) = some (.inl (nI r, m1)) := by
      rw [m_writeWay_l24, if_pos]
      have := etr.symm ▸ z
      exact this.symm
    refine ⟨m1, ?_, e2, by rw [e3, npW_14]⟩
    show (iter (m_writeWay_l24 (nI t)) FU (nI r, m1)).bind _ = _
    rw [iter_exit ex]; rfl
  · rw [if_neg z, if_neg z, Option.bind_some]
    have key : ∃ x, iter (m_writeWay_l24 (nI t)) FU (nI r, sI m (20, 0) 14 (0 : Int32)) = some x ∧ WSt x.2 (wy m D t) ∧ npW x.2 = npW m := by
      refine iterN (P := fun w st => ∃ e m', st = (nI (up (par m) (D - e) t), m') ∧ e + w = D ∧ WSt m' (wy m e (up (par m) (D - e) t)) ∧ npW m' = npW m) ?_ FU D _ ⟨0, _, by rw [Nat.sub_zero, hw.1], by omega, h0, npW_14⟩ (by show D < 1000; omega)
      rintro w st ⟨e, m', rfl, h1, h2, h3⟩
      rw [m_writeWay_l24]
      have hv := (hw.2 (D - e) (by omega)).1
      by_cases g : e = D
      · left
        subst g
        rw [Nat.sub_self, if_pos (show nI (up (par m) 0 t) = nI t from rfl)]
        rw [Nat.sub_self] at h2
        exact ⟨_, rfl, h2, h3⟩
      · right
        have hx : ¬ nI (up (par m) (D - e) t) = nI t := by
          rw [neq (by omega) (by omega)]
          exact fun y => hne 0 (D - e) (by omega) (by omega) y.symm
        rw [if_neg hx]
        have inner : ∃ x, iter (m_writeWay_l31 (nI t) (nI (up (par m) (D - e) t)) m') FU (nI t) = some x ∧ x = nI (up (par m) (D - e - 1) t) := by
          refine iterN (P := fun w st => ∃ k, st = nI (up (par m) k t) ∧ k + w = D - e - 1) ?_ FU (D - e - 1) _ ⟨0, rfl, by omega⟩ (by show D - e - 1 < 1000; omega)
          rintro w2 st ⟨k, rfl, k1⟩
          obtain ⟨q1, q2, q3⟩ := hw.2 k (by omega)
          obtain ⟨p1, p2, -⟩ := rP_par (rN_P (hn _ q1) q2) q1
          have q4 := (hw.2 (k + 1) (by omega)).1
          have ep : gI m (22, 0) (up (par m) k t) = nI (up (par m) (k + 1) t) := by rw [up_succ]; exact p2
          rw [m_writeWay_l31, gB q1 (by decide), gB q1 (by decide), clI (by omega), npW_22 h3, ep]
          by_cases g2 : k = D - e - 1
          · left
            rw [if_pos (by rw [show k + 1 = D - e by omega])]
            exact ⟨_, rfl, by rw [g2]⟩
          · right
            rw [if_neg (by
              rw [neq (by omega) (by omega)]
              exact hne (k + 1) (D - e) (by omega) (by omega))]
            exact ⟨_, w2 - 1, by omega, rfl, k + 1, rfl, by omega⟩
        obtain ⟨x, ei, rfl⟩ := inner
        obtain ⟨q1, q2, q3⟩ := hw.2 (D - e - 1) (by omega)
        have hpar : par m (up (par m) (D - e - 1) t) = up (par m) (D - e) t := by
          have hs := up_succ (par m) (D - e - 1) t
          rw [show D - e - 1 + 1 = D - e by omega] at hs
          exact hs.symm
        have hnm : gL m (23, 0) (up (par m) (D - e - 1) t) = lN (nn m (up (par m) (D - e - 1) t)) := by
          rcases rN_P (hn _ q1) q2 with ⟨a1, a2, a3⟩ | ⟨p, a1, a2, a3, a4, a5, a6, a7⟩
          · exact absurd (par_nI a2 q1) (q3 (by omega))
          · exact (wf_nn a7).1
        have hl1 := wy_len m e (up (par m) (D - e) t)
        obtain ⟨m2, f1, f2, f3⟩ := write_eq (b := 47) h2 (by omega) (by decide)
        have hl2 : (wy m e (up (par m) (D - e) t) ++ [47]).length + 6 ≤ 200 := by
          rw [List.length_append, List.length_singleton]; omega
        obtain ⟨y, g1, g2, g3⟩ := wName_eq (v := nI t) q1 (by rw [npW_L f3, npW_L h3]; exact hnm) f2 hl2
        rw [ei, Option.bind_some, show (47 : Int32) = nI 47 from rfl, f1, Option.bind_some, g1, Option.bind_some]
        refine ⟨_, w - 1, by omega, rfl, e + 1, y.2, by rw [show D - (e + 1) = D - e - 1 by omega], by omega, ?_, by rw [g3, f3, h3]⟩
        rw [show D - (e + 1) = D - e - 1 by omega, wy, hpar]
        rw [List.append_assoc] at g2
        exact g2
    obtain ⟨x, e, k1, k2⟩ := key
    exact ⟨x.2, by rw [e]; rfl, k1, k2⟩
