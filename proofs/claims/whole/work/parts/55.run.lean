/-! the line answered on both sides -/
def rBef (c m : Hp) : Prop := gL c (14, 0) 1 = gL m (20, 0) 22 ∧ (∃ z, z < 1000 ∧ gI c (14, 0) 0 = nI z ∧ gI m (20, 0) 24 = nI z) ∧ rRen m (gR c (14, 0) 2) (gI m (20, 0) 23)
theorem rBef_np {c c' m : Hp} (h : rBef c m) (e : npP c' = npP c) : rBef c' m := by
  have h1 : rBef (npP c) m := h
  rw [← e] at h1
  exact h1
def rNew (c : Hp) : Prop := gR c (14, 1) 2 = none ∧ gI c (14, 1) 0 = 0
theorem rNew_np {c c' : Hp} (h : rNew c) (e : npP c' = npP c) : rNew c' := by
  have h1 : rNew (npP c) := h
  rw [← e] at h1
  exact h1
theorem disp_eq {c m : Hp} {n k : Nat} (hk : k < 22) (hy : RelY c m) (hl : rLine c m n) (h9 : gI m (20, 0) 9 = nI n) (h11 : gI m (20, 0) 11 = if n ≤ cl m n then -1 else nI (cl m n + 1)) (hfI : fI c m n k) (hb : rBef c m) (hnw : rNew c) (ho : gI m (20, 0) 12 = 1) (hlog : k ≤ 3 ∨ ∃ r q, LG c m r q) (hmv : gI m (20, 0) 28 = 0 ∨ k = 2 ∨ k = 3 ∨ k = 17) : Res (r_answerLine_j74 (some k) c) (m_run_j73 (nI (k + 1)) m) c m := by
  obtain ⟨i1, i2, i3, i4, i5⟩ := hfI
  have hnn := hl.1
  have a11 : cl m n + 1 < n → gI m (20, 0) 11 = nI (cl m n + 1) := fun z => by rw [h11, if_neg (by omega)]
  have hcx : ∀ y r q, npP y = npP c → LG c m r q → gI m (20, 0) 28 = 0 → CX y m n r q := fun y r q e l z => ⟨Y_np hy e, LG_np l e, z, (rNew_np hnw e).1, h9⟩
  have hpa : cl m n + 1 < n → pI c m n (cl m n + 1) → ∀ r q, LG c m r q → ∃ y E P v, path_walk (gR c (0, 0) 10) (gR c (0, 0) 11) c = some y ∧ npP y = npP c ∧ PF y m r v E P ∧ MF m n v E P := fun z1 z2 r q l => path_facts hl hy.2.2.1 l z1 (a11 z1) z2
  rcases (show k = 0 ∨ k = 1 ∨ k = 2 ∨ k = 3 ∨ k = 4 ∨ k = 5 ∨ k = 6 ∨ k = 7 ∨ k = 8 ∨ k = 9 ∨ k = 10 ∨ k = 11 ∨ k = 12 ∨ k = 13 ∨ k = 14 ∨ k = 15 ∨ k = 16 ∨ k = 17 ∨ k = 18 ∨ k = 19 ∨ k = 20 ∨ k = 21 by omega) with rfl | rfl | rfl | rfl | rfl | rfl | rfl | rfl | rfl | rfl | rfl | rfl | rfl | rfl | rfl | rfl | rfl | rfl | rfl | rfl | rfl | rfl
  · rw [j74_0, j73_0]
    have ha := i3 (by omega)
    exact user_eq hy hl ha (a11 ha) h9
  · rw [j74_1, j73_1]
    have ha := i3 (by omega)
    exact pass_eq hy hl ha (a11 ha) h9 hb.1
  · rw [j74_2, j73_2]
    exact quit_eq hy
  · rw [j74_3, j73_3]
    exact noop_eq hy
  · obtain ⟨r, q, l⟩ : ∃ r q, LG c m r q := by
      rcases hlog with z | z
      · omega
      · exact z
    have hz : gI m (20, 0) 28 = 0 := by
      rcases hmv with z | z | z | z
      · exact z
      · omega
      · omega
      · omega
    rw [j74_4, j73_4]
    exact pwd_eq (hcx c r q rfl l hz)
  · obtain ⟨r, q, l⟩ : ∃ r q, LG c m r q := by
      rcases hlog with z | z
      · omega
      · exact z
    have hz : gI m (20, 0) 28 = 0 := by
      rcases hmv with z | z | z | z
      · exact z
      · omega
      · omega
      · omega
    obtain ⟨p1, p2⟩ := i1 (by unfold isA2; omega)
    obtain ⟨y, E, P, v, w1, w2, w3, w4⟩ := hpa p1 p2 r q l
    have hc := hcx y r q w2 l hz
    rw [j74_5, j73_5, w1, Option.bind_some, rop_5]
    exact Res_hi (cwd_eq hc w3 w4) (np_hi w2)
  · obtain ⟨r, q, l⟩ : ∃ r q, LG c m r q := by
      rcases hlog with z | z
      · omega
      · exact z
    have hz : gI m (20, 0) 28 = 0 := by
      rcases hmv with z | z | z | z
      · exact z
      · omega
      · omega
      · omega
    rw [j74_6, j73_6]
    exact cdup_eq (hcx c r q rfl l hz)
  · obtain ⟨r, q, l⟩ : ∃ r q, LG c m r q := by
      rcases hlog with z | z
      · omega
      · exact z
    have hz : gI m (20, 0) 28 = 0 := by
      rcases hmv with z | z | z | z
      · exact z
      · omega
      · omega
      · omega
    obtain ⟨p1, p2⟩ := i1 (by unfold isA2; omega)
    obtain ⟨y, E, P, v, w1, w2, w3, w4⟩ := hpa p1 p2 r q l
    have hc := hcx y r q w2 l hz
    rw [j74_7, j73_7, w1, Option.bind_some, rop_7]
    exact Res_hi (mkd_eq hc w3 w4) (np_hi w2)
  · obtain ⟨r, q, l⟩ : ∃ r q, LG c m r q := by
      rcases hlog with z | z
      · omega
      · exact z
    have hz : gI m (20, 0) 28 = 0 := by
      rcases hmv with z | z | z | z
      · exact z
      · omega
      · omega
      · omega
    obtain ⟨p1, p2⟩ := i1 (by unfold isA2; omega)
    obtain ⟨y, E, P, v, w1, w2, w3, w4⟩ := hpa p1 p2 r q l
    have hc := hcx y r q w2 l hz
    rw [j74_8, j73_8, w1, Option.bind_some, rop_8]
    exact Res_hi (rmd_eq hc w3 w4) (np_hi w2)
  · obtain ⟨r, q, l⟩ : ∃ r q, LG c m r q := by
      rcases hlog with z | z
      · omega
      · exact z
    have hz : gI m (20, 0) 28 = 0 := by
      rcases hmv with z | z | z | z
      · exact z
      · omega
      · omega
      · omega
    obtain ⟨p1, p2⟩ := i1 (by unfold isA2; omega)
    obtain ⟨y, E, P, v, w1, w2, w3, w4⟩ := hpa p1 p2 r q l
    have hc := hcx y r q w2 l hz
    rw [j74_9, j73_9, w1, Option.bind_some, rop_9]
    exact Res_hi (dele_eq hc w3 w4) (np_hi w2)
  · obtain ⟨r, q, l⟩ : ∃ r q, LG c m r q := by
      rcases hlog with z | z
      · omega
      · exact z
    have hz : gI m (20, 0) 28 = 0 := by
      rcases hmv with z | z | z | z
      · exact z
      · omega
      · omega
      · omega
    obtain ⟨p1, p2⟩ := i1 (by unfold isA2; omega)
    obtain ⟨y, E, P, v, w1, w2, w3, w4⟩ := hpa p1 p2 r q l
    have hc := hcx y r q w2 l hz
    rw [j74_10, j73_10, w1, Option.bind_some, rop_10]
    exact Res_hi (size_eq hc w3 w4) (np_hi w2)
  · obtain ⟨r, q, l⟩ : ∃ r q, LG c m r q := by
      rcases hlog with z | z
      · omega
      · exact z
    have hz : gI m (20, 0) 28 = 0 := by
      rcases hmv with z | z | z | z
      · exact z
      · omega
      · omega
      · omega
    obtain ⟨p1, p2⟩ := i1 (by unfold isA2; omega)
    obtain ⟨y, E, P, v, w1, w2, w3, w4⟩ := hpa p1 p2 r q l
    have hc := hcx y r q w2 l hz
    rw [j74_11, j73_11, w1, Option.bind_some, rop_11]
    exact Res_hi (rnfr_eq hc w3 w4) (np_hi w2)
  · obtain ⟨r, q, l⟩ : ∃ r q, LG c m r q := by
      rcases hlog with z | z
      · omega
      · exact z
    have hz : gI m (20, 0) 28 = 0 := by
      rcases hmv with z | z | z | z
      · exact z
      · omega
      · omega
      · omega
    obtain ⟨p1, p2⟩ := i1 (by unfold isA2; omega)
    obtain ⟨y, E, P, v, w1, w2, w3, w4⟩ := hpa p1 p2 r q l
    have hc := hcx y r q w2 l hz
    rw [j74_12, j73_12, w1, Option.bind_some, rop_12]
    exact Res_hi (rnto_eq hc (rBef_np hb w2).2.2 w3 w4) (np_hi w2)
  · rw [j74_13, j73_13]
    have ha := i3 (by omega)
    exact type_eq hy hl ha (a11 ha) h9
  · rw [j74_14, j73_14]
    obtain ⟨ha, hok⟩ := i4 rfl
    exact rest_eq hy hl ha (a11 ha) h9 hok hnw.2
  · rw [j74_15, j73_15]
    exact pasv_eq hy
  · rw [j74_16, j73_16]
    obtain ⟨ha, -⟩ := i5 rfl
    exact port_eq hy hl ha (a11 ha)
  · rw [j74_17, j73_17]
    exact abor_eq hy
  · obtain ⟨r, q, l⟩ : ∃ r q, LG c m r q := by
      rcases hlog with z | z
      · omega
      · exact z
    have hz : gI m (20, 0) 28 = 0 := by
      rcases hmv with z | z | z | z
      · exact z
      · omega
      · omega
      · omega
    obtain ⟨p1, p2⟩ := i1 (by unfold isA2; omega)
    obtain ⟨y, E, P, v, w1, w2, w3, w4⟩ := hpa p1 p2 r q l
    have hc := hcx y r q w2 l hz
    rw [j74_18, j73_18, w1, Option.bind_some, rop_18]
    exact Res_hi (retr_eq hc ho (rBef_np hb w2).2.1 w3 w4 (a11 p1) (by omega)) (np_hi w2)
  · obtain ⟨r, q, l⟩ : ∃ r q, LG c m r q := by
      rcases hlog with z | z
      · omega
      · exact z
    have hz : gI m (20, 0) 28 = 0 := by
      rcases hmv with z | z | z | z
      · exact z
      · omega
      · omega
      · omega
    obtain ⟨p1, p2⟩ := i1 (by unfold isA2; omega)
    obtain ⟨y, E, P, v, w1, w2, w3, w4⟩ := hpa p1 p2 r q l
    have hc := hcx y r q w2 l hz
    rw [j74_19, j73_19, w1, Option.bind_some, rop_19]
    exact Res_hi (take_eq (ap := 0) (kk := 20) hc ho w3 w4 (a11 p1) (by omega) (Or.inl ⟨rfl, rfl⟩)) (np_hi w2)
  · obtain ⟨r, q, l⟩ : ∃ r q, LG c m r q := by
      rcases hlog with z | z
      · omega
      · exact z
    have hz : gI m (20, 0) 28 = 0 := by
      rcases hmv with z | z | z | z
      · exact z
      · omega
      · omega
      · omega
    obtain ⟨p1, p2⟩ := i1 (by unfold isA2; omega)
    obtain ⟨y, E, P, v, w1, w2, w3, w4⟩ := hpa p1 p2 r q l
    have hc := hcx y r q w2 l hz
    rw [j74_20, j73_20, w1, Option.bind_some, rop_20]
    exact Res_hi (take_eq (ap := 1) (kk := 21) hc ho w3 w4 (a11 p1) (by omega) (Or.inr ⟨rfl, rfl⟩)) (np_hi w2)
  · obtain ⟨r, q, l⟩ : ∃ r q, LG c m r q := by
      rcases hlog with z | z
      · omega
      · exact z
    have hz : gI m (20, 0) 28 = 0 := by
      rcases hmv with z | z | z | z
      · exact z
      · omega
      · omega
      · omega
    rw [j74_21, j73_21]
    rcases i2 rfl with ⟨p1, p2⟩ | ⟨p1, p2, p3, p4⟩
    · obtain ⟨y, E, P, v, w1, w2, w3, w4⟩ := hpa p1 p2 r q l
      rw [w1, Option.bind_some, rop_21]
      exact Res_hi (nlst_eq (hcx y r q w2 l hz) ho w3.1 w3.2.2.2.1 (by
        rw [a11 p1, if_pos (nI_pos' (by omega)), h9, w4.1]; rfl)) (np_hi w2)
    · obtain ⟨y, w1, w2, w3⟩ := path_none hl hy.2.2.1 l p2 p3 p4
      rw [w1, Option.bind_some, rop_21]
      exact Res_hi (nlst_eq (hcx y r q w2 l hz) ho w3 (fun i hi => by
        cases hi
        exact ⟨l.2.1, by rw [l.2.2.2.2.2.2.2.2.1]; decide, l.2.2.2.2.2.2.2.2.2⟩) (by
        rw [h11, if_pos (show n ≤ cl m n by omega), if_neg (by decide), l.2.2.2.2.2.1]; rfl)) (np_hi w2)
theorem tabW : ∀ k, k < 22 → ((cWL.getD k 0 = 0) ↔ 4 ≤ k) ∧ ((cDT.getD k 0 = 0) ↔ ¬ (k = 2 ∨ k = 3 ∨ k = 17)) := by decide
theorem ends_eq {c m : Hp} {n : Nat} (h : rLine c m n) : line_endsWithItsSpace c = some (if n = cl m n + 1 then 1 else 0) := by
  have hn := h.1
  have hc : cl m n ≤ n := fp_le _ _
  have e : (nI n = nI (cl m n + 1)) = (n = cl m n + 1) := neq (by omega) (by omega)
  rw [line_endsWithItsSpace, cmdLen_eq h, Option.bind_some, h.2.1, nI_1]
  simp only [e]
  by_cases z : n = cl m n + 1
  · rw [if_pos z, if_pos z]; rfl
  · rw [if_neg z, if_neg z]; rfl
theorem LG_of {c m : Hp} (h : rLog c m) : (gR c (0, 0) 10 = none ∧ gI m (20, 0) 16 = -1) ∨ ∃ r q, LG c m r q := by
  rcases h with h | ⟨r, q, h⟩
  · exact Or.inl h
  · exact Or.inr ⟨r, q, h⟩
theorem run_eq {c m : Hp} {n : Nat} (hy : RelY c m) (hl : rLine c m n) (hb : rBef c m) (hnw : rNew c) (ho : gI m (20, 0) 12 = 1) : Res (r_answerLine c) (m_run m) c m := by
  obtain ⟨x, fr, e1, e2, e3⟩ := read_eq hl
  have hy1 : RelY c (sI m (20, 0) 11 fr) := hy
  have hl1 : rLine c (sI m (20, 0) 11 fr) n := hl
  have hb1 : rBef c (sI m (20, 0) 11 fr) := hb
  have ho1 : gI (sI m (20, 0) 11 fr) (20, 0) 12 = 1 := ho
  have ecl : cl (sI m (20, 0) 11 fr) n = cl m n := rfl
  have lo1 : loP (sI m (20, 0) 11 fr) = loP m := loP_sI (by decide)
  have h11 : ∀ k, ffi (swB m n) 22 = some k → n ≠ cl m n + 1 → gI (sI m (20, 0) 11 fr) (20, 0) 11 = if n ≤ cl m n then -1 else nI (cl m n + 1) := e3
  generalize sI m (20, 0) 11 fr = m1 at e1 hy1 hl1 hb1 ho1 ecl lo1 h11
  have key : Res (r_answerLine c) (m_run m) c m1 := by
    have tw : ∀ z, m_commandOf x m1 = some z → m_run m = if z = 0 then some ((500 : Int32), m1) else (m_argumentFits z m1).bind fun y4 => if y4 = 0 then some ((501 : Int32), m1) else if 0 ≤ (gI m1 (20, 0) 16) then m_run_j46 z m1 else if z ≤ (4 : Int32) then m_run_j46 z m1 else some ((530 : Int32), m1) := fun z hz => by rw [m_run, e1, Option.bind_some, hz, Option.bind_some]
    rw [r_answerLine, cmd_eq hl, Option.bind_some]
    cases K : ffi (swB m n) 22 with
    | none =>
      rw [if_pos rfl, tw 0 (by rw [e2 m1, K]), if_pos rfl]
      exact Res_no rfl rfl hy1 (by decide) rfl rfl
    | some k =>
      have hk := (ffi_some K).1
      rw [if_neg (show ¬ (some k : Option Nat) = none from fun z => by cases z), ends_eq hl, Option.bind_some]
      by_cases hne : n = cl m n + 1
      · rw [if_pos hne, if_neg one_ne, tw 0 (by rw [e2 m1, K]; exact congrArg some (if_pos hne)), if_pos rfl]
        exact Res_no rfl rfl hy1 (by decide) rfl rfl
      · rw [if_neg hne, if_pos rfl, tw (nI (k + 1)) (by rw [e2 m1, K]; exact congrArg some (if_neg hne)), if_neg (nI_ne0 (by omega) (by omega))]
        have g11 := h11 k K hne
        obtain ⟨t, c', t1, t2, t3, t4, t5⟩ := fits_eq hl1 hk (by rw [ecl]; exact hne) (by rw [ecl]; exact g11)
        rw [t1, t2, Option.bind_some, Option.bind_some]
        have hy2 := Y_np hy1 t4
        rcases t3 with rfl | rfl
        · rw [if_pos rfl, if_pos rfl]
          exact Res_no rfl rfl hy2 (by decide) (np_hi t4) rfl
        · rw [if_neg one_ne, if_neg one_ne]
          have hl2 := rLine_np hl1 t4
          obtain ⟨tw1, tw2⟩ := tabW k hk
          have fin : (k ≤ 3 ∨ ∃ r q, LG c' m1 r q) → Res (r_answerLine_j53 (some k) c') (m_run_j46 (nI (k + 1)) m1) c' m1 := fun hlog => by
            have hk3 := hy2.2.2.2.2.2.2.2
            have q3 : gI m1 (20, 0) 28 = 0 ∨ gI m1 (20, 0) 28 = 1 ∨ gI m1 (20, 0) 28 = 2 := by
              rcases hk3.2 with h | h | h
              · exact Or.inl h.1
              · exact Or.inr (Or.inl h.1)
              · exact Or.inr (Or.inr h.1)
            have go : (gI m1 (20, 0) 28 = 0 ∨ k = 2 ∨ k = 3 ∨ k = 17) → Res (r_answerLine_j74 (some k) c') (m_run_j73 (nI (k + 1)) m1) c' m1 := fun hmv => disp_eq hk hy2 hl2 hl2.2.2.1 (by rw [ecl]; exact g11) (t5 rfl) (rBef_np hb1 t4) (rNew_np hnw t4) ho1 hlog hmv
            rw [r_answerLine_j53, m_run_j46, hk3.1]
            by_cases z : gI m1 (20, 0) 28 = 0
            · rw [if_pos z, if_pos (by rw [z]; decide)]
              exact go (Or.inl z)
            · have z2 : ¬ gI m1 (20, 0) 28 ≤ 0 := by
                rcases q3 with h | h | h
                · exact absurd h z
                · rw [h]; decide
                · rw [h]; decide
              have f3 : (nI (k + 1) = (3 : Int32)) = (k = 2) := by
                rw [show (3 : Int32) = nI 3 from rfl, nk hk (by decide)]
                exact propext (by omega)
              have f4 : (nI (k + 1) = (4 : Int32)) = (k = 3) := by
                rw [show (4 : Int32) = nI 4 from rfl, nk hk (by decide)]
                exact propext (by omega)
              have f18 : (nI (k + 1) = (18 : Int32)) = (k = 17) := by
                rw [show (18 : Int32) = nI 18 from rfl, nk hk (by decide)]
                exact propext (by omega)
              rw [if_neg z, if_neg z2, nd22 hk, Option.bind_some]
              simp only [f3, f4, f18]
              by_cases w : k = 2 ∨ k = 3 ∨ k = 17
              · rw [if_neg (fun t => tw2.mp t w)]
                have eq1 : (if k = 2 then m_run_j73 (nI (k + 1)) m1 else if k = 3 then m_run_j73 (nI (k + 1)) m1 else if k = 17 then m_run_j73 (nI (k + 1)) m1 else some ((503 : Int32), m1)) = m_run_j73 (nI (k + 1)) m1 := by
                  by_cases w1 : k = 2
                  · rw [if_pos w1]
                  · rw [if_neg w1]
                    by_cases w2 : k = 3
                    · rw [if_pos w2]
                    · rw [if_neg w2, if_pos (by omega)]
                rw [eq1]
                exact go (Or.inr w)
              · rw [if_pos (tw2.mpr w), if_neg (fun t => w (Or.inl t)), if_neg (fun t => w (Or.inr (Or.inl t))), if_neg (fun t => w (Or.inr (Or.inr t)))]
                exact Res_no rfl rfl hy2 (by decide) rfl rfl
          have ek : (nI (k + 1) ≤ (4 : Int32)) = (k ≤ 3) := by
            rw [show (4 : Int32) = nI 4 from rfl, nle (by decide) (by omega)]
            exact propext (by omega)
          refine Res_hi (y := c') ?_ (np_hi t4)
          rcases LG_of hy2.2.2.2.2.2.1 with ⟨g1, g2⟩ | ⟨r, q, l⟩
          · rw [g1, if_pos rfl, nd22 hk, Option.bind_some, g2, if_neg (show ¬ (0 : Int32) ≤ -1 by decide)]
            simp only [ek]
            by_cases w : k ≤ 3
            · rw [if_pos w, if_neg (fun t => by have := tw1.mp t; omega)]
              exact fin (Or.inl w)
            · rw [if_neg w, if_pos (tw1.mpr (by omega))]
              exact Res_no rfl rfl hy2 (by decide) rfl rfl
          · have g1 := l.2.2.1
            have g2 := l.2.2.2.1
            have hr24 := l.1
            rw [g1, if_neg (fun z => by cases z), g2, if_pos (nI_pos' (by omega))]
            exact fin (Or.inr ⟨r, q, l⟩)
  obtain ⟨r, c', m', k1, k2, k3, k4, k5, k6⟩ := key
  exact ⟨r, c', m', k1, k2, k3, k4, k5, by rw [k6, lo1]⟩
