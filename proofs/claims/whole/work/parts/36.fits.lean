/-! does the argument fit the command -/
theorem argLen_eq {c m : Hp} {n : Nat} (h : rLine c m n) : line_argumentLength c = some (nI n - nI (cl m n + 1)) := by
  rw [line_argumentLength, argStart_eq h, Option.bind_some, h.2.1]
theorem hasArg_eq {c m : Hp} {n : Nat} (h : rLine c m n) : line_hasArgument c = some (if cl m n + 1 < n then 1 else 0) := by
  have hl := h.1
  have hc : cl m n ≤ n := fp_le _ _
  rw [line_hasArgument, argLen_eq h, Option.bind_some]
  have e : (if nI n - nI (cl m n + 1) ≤ 0 then some (0 : Int32) else some 1) = some (if cl m n + 1 < n then (1 : Int32) else 0) := by
    by_cases q : cl m n + 1 ≤ n
    · rw [nI_sub q]
      by_cases w : cl m n + 1 < n
      · rw [if_neg (nI_nle (by omega) (by omega)), if_pos w]
      · rw [show n - (cl m n + 1) = 0 by omega, if_pos (by decide), if_neg w]
    · have e2 : nI n - nI (cl m n + 1) = -1 := by
        rw [show cl m n + 1 = n + 1 by omega, ← nI_1]; grind
      rw [e2, if_pos (by decide), if_neg (by omega)]
  rw [e, Option.bind_some, gZi]
theorem arg_tab : ∀ k, k < 22 → (cArg.getD k 0 = 0 ∧ (k = 2 ∨ k = 3 ∨ k = 4 ∨ k = 6 ∨ k = 15 ∨ k = 17)) ∨ (cArg.getD k 0 = 1 ∧ (k = 0 ∨ k = 1)) ∨ (cArg.getD k 0 = 2 ∧ (k = 5 ∨ k = 7 ∨ k = 8 ∨ k = 9 ∨ k = 10 ∨ k = 11 ∨ k = 12 ∨ k = 18 ∨ k = 19 ∨ k = 20)) ∨ (cArg.getD k 0 = 3 ∧ k = 21) ∨ (cArg.getD k 0 = 4 ∧ k = 14) ∨ (cArg.getD k 0 = 5 ∧ k = 16) ∨ (cArg.getD k 0 = 6 ∧ k = 13) := by decide +kernel
def isA2 (k : Nat) : Prop := k = 5 ∨ k = 7 ∨ k = 8 ∨ k = 9 ∨ k = 10 ∨ k = 11 ∨ k = 12 ∨ k = 18 ∨ k = 19 ∨ k = 20
/-- what was read of a path that is in order -/
def pI (c m : Hp) (n a : Nat) : Prop := ∃ M, PM m n (fst0 m a) M ∧ PH c m n (fst0 m a) M ∧ gI c (8, 0) 2 = (if chN m a = 47 then 1 else 0) ∧ gI c (8, 0) 3 = (if 0 < M ∧ sp m n (fst0 m a) M = n then 1 else 0)
def fI (c m : Hp) (n k : Nat) : Prop := (isA2 k → cl m n + 1 < n ∧ pI c m n (cl m n + 1)) ∧ (k = 21 → (cl m n + 1 < n ∧ pI c m n (cl m n + 1)) ∨ (n = cl m n ∧ gI c (8, 0) 1 = 0 ∧ gI c (8, 0) 2 = 0 ∧ gI c (8, 0) 3 = 0)) ∧ (k = 0 ∨ k = 1 ∨ k = 13 → cl m n + 1 < n) ∧ (k = 14 → cl m n + 1 < n ∧ nOK m (cl m n + 1) (n - (cl m n + 1))) ∧ (k = 16 → cl m n + 1 < n ∧ PT m n 40 (cl m n + 1) 0 0 ≠ -1)
theorem stay_np {c : Hp} : ∃ y, path_stay c = some y ∧ npP y = npP c ∧ gI y (8, 0) 1 = 0 ∧ gI y (8, 0) 2 = 0 ∧ gI y (8, 0) 3 = 0 := ⟨_, rfl, by rw [np_sI (Or.inl rfl), np_sI (Or.inl rfl), np_sI (Or.inl rfl)], rfl, rfl, rfl⟩
/-- the name that is the argument, on both sides -/
theorem argName_eq {c m : Hp} {n : Nat} (h : rLine c m n) (ha : cl m n + 1 < n) : line_argumentName c = some (lN (ND (chs m (cl m n + 1)) (n - (cl m n + 1)))) ∧ m_nameAt (nI (cl m n + 1)) (nI n) m = some (lN (ND (chs m (cl m n + 1)) (n - (cl m n + 1)))) := by
  refine ⟨?_, nameAt_eq h (by omega) (Nat.le_refl _)⟩
  rw [line_argumentName, argStart_eq h, Option.bind_some, h.2.1, partOfLine_eq h (by omega) (Nat.le_refl _), Option.bind_some, withoutDots_eq (chs_b h (Nat.le_refl _)), Option.bind_some]
theorem argNum_eq {c m : Hp} {n : Nat} (h : rLine c m n) : ∃ x, line_argumentNumber c = some x ∧ ((nOK m (cl m n + 1) (n - (cl m n + 1)) ∧ x = nI (dv (chs m (cl m n + 1)) (n - (cl m n + 1)))) ∨ (¬ nOK m (cl m n + 1) (n - (cl m n + 1)) ∧ x = -1)) := by
  have hl := h.1
  have hc : cl m n ≤ n := fp_le _ _
  obtain ⟨x, e1, e2⟩ := number_eq h (show cl m n + 1 < 2 ^ 30 by omega) (Nat.le_refl n)
  refine ⟨x, ?_, e2⟩
  rw [line_argumentNumber, argStart_eq h, Option.bind_some, h.2.1, e1]; rfl
theorem argPort_eq {c m : Hp} {n : Nat} (h : rLine c m n) (ha : cl m n + 1 < n) : line_argumentPort c = some (PT m n 40 (cl m n + 1) 0 0) := by
  obtain ⟨x, e1, e2⟩ := port_c h (show cl m n + 1 ≤ n by omega)
  rw [line_argumentPort, argStart_eq h, Option.bind_some, e1, Option.bind_some, e2]
theorem portTold_eq {c m : Hp} {n : Nat} (h : rLine c m n) (ha : cl m n + 1 < n) (hf : gI m (20, 0) 11 = nI (cl m n + 1)) : m_portTold m = some (PT m n 40 (cl m n + 1) 0 0) := by
  obtain ⟨x, e1, e2⟩ := port_m h (show cl m n + 1 ≤ n by omega)
  rw [m_portTold, hf, e1, Option.bind_some, e2]
theorem nk {k j : Nat} (hk : k < 22) (hj : j < 30) : (nI (k + 1) = nI j) = (k + 1 = j) := neq (by omega) (by omega)
theorem m_fits_no {m : Hp} {k : Nat} (hk : k < 22) (hf : gI m (20, 0) 11 = -1) : m_argumentFits (nI (k + 1)) m = some (if (k = 2 ∨ k = 3 ∨ k = 4 ∨ k = 6 ∨ k = 15 ∨ k = 17) ∨ k = 21 then 1 else 0) := by
  have e : (if (0 : Int32) ≤ -1 then some (0 : Int32) else some 1) = some 1 := rfl
  rw [m_argumentFits, hf, e, Option.bind_some, gZ1]
  have h3 := nk hk (j := 3) (by decide); have h4 := nk hk (j := 4) (by decide); have h5 := nk hk (j := 5) (by decide); have h7 := nk hk (j := 7) (by decide); have h16 := nk hk (j := 16) (by decide); have h18 := nk hk (j := 18) (by decide); have h22 := nk hk (j := 22) (by decide)
  simp only [show (3 : Int32) = nI 3 from rfl, show (4 : Int32) = nI 4 from rfl, show (5 : Int32) = nI 5 from rfl, show (7 : Int32) = nI 7 from rfl, show (16 : Int32) = nI 16 from rfl, show (18 : Int32) = nI 18 from rfl, show (22 : Int32) = nI 22 from rfl, h3, h4, h5, h7, h16, h18, h22]
  by_cases q : k = 2 ∨ k = 3 ∨ k = 4 ∨ k = 6 ∨ k = 15 ∨ k = 17
  · rw [if_pos (show (k = 2 ∨ k = 3 ∨ k = 4 ∨ k = 6 ∨ k = 15 ∨ k = 17) ∨ k = 21 from Or.inl q)]
    rcases q with rfl | rfl | rfl | rfl | rfl | rfl <;> rfl
  · rw [if_neg (by omega), if_neg (by omega), if_neg (by omega), if_neg (by omega), if_neg (by omega), if_neg (by omega), if_neg (by decide)]
    by_cases w : k = 21
    · rw [if_pos (by omega), if_pos (Or.inr w)]; rfl
    · rw [if_neg (by omega), if_neg (by omega)]; rfl
theorem m_fits_ya {m : Hp} {k j : Nat} (hk : k < 22) (hj : j < 2 ^ 31) (hf : gI m (20, 0) 11 = nI j) (q : k = 2 ∨ k = 3 ∨ k = 4 ∨ k = 6 ∨ k = 15 ∨ k = 17) : m_argumentFits (nI (k + 1)) m = some 0 := by
  have e : (if (0 : Int32) ≤ nI j then some (0 : Int32) else some 1) = some 0 := by rw [if_pos (nI_pos' hj)]
  rw [m_argumentFits, hf, e, Option.bind_some, gZ0]
  rcases q with rfl | rfl | rfl | rfl | rfl | rfl <;> rfl
theorem m_fits_pa {m : Hp} {k j : Nat} (hj : j < 2 ^ 31) (hf : gI m (20, 0) 11 = nI j) (q : isA2 k ∨ k = 21) : m_argumentFits (nI (k + 1)) m = ((m_isPath m).bind fun y20 => if y20 = 0 then some (0 : Int32) else some (1 : Int32)).bind fun t18 => guardZ t18 <| some t18 := by
  have e : (if (0 : Int32) ≤ nI j then some (0 : Int32) else some 1) = some 0 := by rw [if_pos (nI_pos' hj)]
  have c0 : ¬ nI (k + 1) = 3 ∧ ¬ nI (k + 1) = 4 ∧ ¬ nI (k + 1) = 5 ∧ ¬ nI (k + 1) = 7 ∧ ¬ nI (k + 1) = 16 ∧ ¬ nI (k + 1) = 18 ∧ (3 : Int32) ≤ nI (k + 1) ∧ ¬ nI (k + 1) = 15 ∧ ¬ nI (k + 1) = 14 ∧ ¬ nI (k + 1) = 17 := by
    rcases q with (rfl | rfl | rfl | rfl | rfl | rfl | rfl | rfl | rfl | rfl) | rfl <;> decide
  obtain ⟨c1, c2, c3, c4, c5, c6, c7, c8, c9, c10⟩ := c0
  rw [m_argumentFits, hf, e, Option.bind_some, if_neg c1, if_neg c2, if_neg c3, if_neg c4, if_neg c5, if_neg c6, if_pos rfl, if_pos c7, if_neg c8, if_neg c9, if_neg c10]
theorem PM_bad {m : Hp} {n f M j : Nat} (h : PM m n f M) (h1 : sp m n f j < n) (h2 : pV m n f j = 0) : False := by
  by_cases q : j < M
  · exact (h.1 j q).2 h2
  · have := sp_mono (m := m) (n := n) (f := f) (k := j) (j := M) (by omega)
    have := h.2
    omega
theorem fits_eq {c m : Hp} {n k : Nat} (h : rLine c m n) (hk : k < 22) (hn : n ≠ cl m n + 1) (hf : gI m (20, 0) 11 = if n ≤ cl m n then -1 else nI (cl m n + 1)) : ∃ t c', r_argumentFits (some k) c = some (t, c') ∧ m_argumentFits (nI (k + 1)) m = some t ∧ r01 t ∧ npP c' = npP c ∧ (t = 1 → fI c' m n k) := by
  obtain ⟨l1, l2, l3, l4⟩ := id h
  have hc : cl m n ≤ n := fp_le _ _
  rw [r_argumentFits, hasArg_eq h, Option.bind_some]
  by_cases ha : cl m n + 1 < n
  · rw [if_neg (by omega)] at hf
    rw [if_pos ha, if_neg (by decide), nd22 hk, Option.bind_some]
    have e0 : (if (0 : Int32) ≤ nI (cl m n + 1) then some (0 : Int32) else some 1) = some 0 := by rw [if_pos (nI_pos' (by omega))]
    have pathy : isA2 k ∨ k = 21 → ∃ t c', ((path_read c).bind fun y10 => guardZ y10.1 <| some (y10.1, y10.2)) = some (t, c') ∧ m_argumentFits (nI (k + 1)) m = some t ∧ r01 t ∧ npP c' = npP c ∧ (t = 1 → fI c' m n k) := by
      intro q
      obtain ⟨r, c', e1, e2, e3⟩ := pathRead_eq h ha
      obtain ⟨r', e4, e5⟩ := isPath_eq h ha hf
      rw [m_fits_pa (by omega) hf q, e1, e4, Option.bind_some, Option.bind_some]
      rcases e3 with ⟨rfl, f1, M, f2, f3, f4⟩ | ⟨rfl, j, f1, f2⟩
      · rcases e5 with ⟨rfl, M', g1⟩ | ⟨rfl, j, g1, g2⟩
        · refine ⟨1, c', rfl, rfl, Or.inr rfl, e2, fun _ => ?_⟩
          have hp : pI c' m n (cl m n + 1) := ⟨M, f2, f3, f1, f4⟩
          have hcl : cl m n + 1 < n := ha
          refine ⟨fun _ => ⟨hcl, hp⟩, fun _ => Or.inl ⟨hcl, hp⟩, fun _ => hcl, fun z => ?_, fun z => ?_⟩
          · rcases q with (rfl | rfl | rfl | rfl | rfl | rfl | rfl | rfl | rfl | rfl) | rfl <;> omega
          · rcases q with (rfl | rfl | rfl | rfl | rfl | rfl | rfl | rfl | rfl | rfl) | rfl <;> omega
        · exact absurd g2 (fun z => PM_bad f2 g1 z)
      · rcases e5 with ⟨rfl, M', g1⟩ | ⟨rfl, j', g1, g2⟩
        · exact absurd f2 (fun z => PM_bad g1 f1 z)
        · exact ⟨0, c', rfl, rfl, Or.inl rfl, e2, fun z => absurd z (by decide)⟩
    rcases arg_tab k hk with ⟨a1, a2⟩ | ⟨a1, a2⟩ | ⟨a1, a2⟩ | ⟨a1, a2⟩ | ⟨a1, a2⟩ | ⟨a1, a2⟩ | ⟨a1, a2⟩
    · rw [m_fits_ya hk (by omega) hf a2, a1]
      exact ⟨0, c, rfl, rfl, Or.inl rfl, rfl, fun z => absurd z (by decide)⟩
    · obtain ⟨n1, n2⟩ := argName_eq h ha
      have hlt := ND_lt (b := chs m (cl m n + 1)) (n := n - (cl m n + 1)) (chs_b h (Nat.le_refl _))
      have e1 : (lN (ND (chs m (cl m n + 1)) (n - (cl m n + 1))) = (0 : Int64)) = (ND (chs m (cl m n + 1)) (n - (cl m n + 1)) = 0) := propext (lN_inj (b := 0) (by omega) (by decide))
      have hm : m_argumentFits (nI (k + 1)) m = (m_nameAt (nI (cl m n + 1)) (nI n) m).bind fun y31 => (if y31 = (0 : Int64) then some (0 : Int32) else some (1 : Int32)).bind fun t33 => guardZ t33 <| some t33 := by
        rcases a2 with rfl | rfl <;> rw [m_argumentFits, hf, e0, l3, Option.bind_some, if_neg (by decide), if_neg (by decide), if_neg (by decide), if_neg (by decide), if_neg (by decide), if_neg (by decide), if_pos rfl, if_neg (by decide)]
      rw [a1, if_pos rfl, n1, hm, n2, Option.bind_some, Option.bind_some]
      simp only [e1]
      by_cases z : ND (chs m (cl m n + 1)) (n - (cl m n + 1)) = 0
      · rw [if_pos z]
        exact ⟨0, c, rfl, rfl, Or.inl rfl, rfl, fun z => absurd z (by decide)⟩
      · rw [if_neg z]
        refine ⟨1, c, rfl, rfl, Or.inr rfl, rfl, fun _ => ⟨fun z => ?_, fun z => ?_, fun _ => ha, fun z => ?_, fun z => ?_⟩⟩
        · rcases a2 with rfl | rfl <;> rcases z with z | z | z | z | z | z | z | z | z | z <;> cases z
        · omega
        · omega
        · omega
    · rw [a1, if_neg (by decide), if_pos rfl]
      exact pathy (Or.inl a2)
    · rw [a1, if_neg (by decide), if_neg (by decide), if_pos rfl]
      exact pathy (Or.inr a2)
    · subst a2
      obtain ⟨x, x1, x2⟩ := argNum_eq h
      have hdl := dl_le m n (cl m n + 1)
      have had := dl_ad m n (cl m n + 1)
      have hd : nOK m (cl m n + 1) (n - (cl m n + 1)) ↔ (1 ≤ dl m n (cl m n + 1) ∧ dl m n (cl m n + 1) ≤ 3 ∧ cl m n + 1 + dl m n (cl m n + 1) = n) := by
        constructor
        · rintro ⟨p1, p2, p3⟩
          have := dl_of (m := m) (n := n) p3 (Nat.le_refl _) (fun z => by omega)
          omega
        · rintro ⟨p1, p2, p3⟩
          rw [show n - (cl m n + 1) = dl m n (cl m n + 1) by omega]
          exact ⟨p1, p2, had⟩
      have hm : ∃ t, m_argumentFits (nI (14 + 1)) m = some t ∧ ((nOK m (cl m n + 1) (n - (cl m n + 1)) ∧ t = 1) ∨ (¬ nOK m (cl m n + 1) (n - (cl m n + 1)) ∧ t = 0)) := by
        have e4 : ((4 : Int32) ≤ nI (dl m n (cl m n + 1))) = (4 ≤ dl m n (cl m n + 1)) := nle (n := 4) (by omega) (by decide)
        rw [m_argumentFits, hf, e0, l3, Option.bind_some, if_neg (by decide), if_neg (by decide), if_neg (by decide), if_neg (by decide), if_neg (by decide), if_neg (by decide), if_pos rfl, if_pos (by decide), if_pos (show nI (14 + 1) = 15 from rfl), digits_eq h (by omega), Option.bind_some]
        simp only [e4, nI_add, neq (show n < 2 ^ 31 by omega) (show cl m n + 1 + dl m n (cl m n + 1) < 2 ^ 31 by omega)]
        by_cases z : dl m n (cl m n + 1) = 0
        · rw [z, if_pos (by decide)]
          exact ⟨0, rfl, Or.inr ⟨fun y => by have := hd.mp y; omega, rfl⟩⟩
        · rw [if_neg (nI_nle (by omega) (by omega))]
          by_cases z2 : 4 ≤ dl m n (cl m n + 1)
          · rw [if_pos z2]
            exact ⟨0, rfl, Or.inr ⟨fun y => by have := hd.mp y; omega, rfl⟩⟩
          · rw [if_neg z2]
            by_cases z3 : cl m n + 1 + dl m n (cl m n + 1) = n
            · rw [if_pos z3]
              exact ⟨1, rfl, Or.inl ⟨hd.mpr ⟨by omega, by omega, z3⟩, rfl⟩⟩
            · rw [if_neg z3]
              exact ⟨0, rfl, Or.inr ⟨fun y => by have := hd.mp y; omega, rfl⟩⟩
      obtain ⟨t, t1, t2⟩ := hm
      rw [a1, if_neg (by decide), if_neg (by decide), if_neg (by decide), if_pos rfl, x1, t1, Option.bind_some]
      rcases x2 with ⟨x3, rfl⟩ | ⟨x3, rfl⟩
      · have hv := dv_lt3 x3.2.1 x3.2.2
        rcases t2 with ⟨_, rfl⟩ | ⟨t3, _⟩
        · rw [if_neg (m1ne (by omega))]
          refine ⟨1, c, rfl, rfl, Or.inr rfl, rfl, fun _ => ⟨fun z => ?_, fun z => ?_, fun z => ?_, fun _ => ⟨ha, x3⟩, fun z => ?_⟩⟩
          · rcases z with z | z | z | z | z | z | z | z | z | z <;> cases z
          · omega
          · omega
          · omega
        · exact absurd x3 t3
      · rcases t2 with ⟨t3, _⟩ | ⟨_, rfl⟩
        · exact absurd t3 x3
        · rw [if_pos rfl]
          exact ⟨0, c, rfl, rfl, Or.inl rfl, rfl, fun z => absurd z (by decide)⟩
    · subst a2
      have hm : m_argumentFits (nI (16 + 1)) m = some (if PT m n 40 (cl m n + 1) 0 0 = -1 then (0 : Int32) else 1) := by
        rw [m_argumentFits, hf, e0, Option.bind_some, if_neg (by decide), if_neg (by decide), if_neg (by decide), if_neg (by decide), if_neg (by decide), if_neg (by decide), if_pos rfl, if_pos (by decide), if_neg (by decide), if_neg (by decide), if_pos (show nI (16 + 1) = 17 from rfl), portTold_eq h ha hf, Option.bind_some]
        rcases PT_r (m := m) (n := n) (f := 40) (q := cl m n + 1) (i := 0) (v := 0) (by decide) with e | ⟨b, b1, e⟩
        · rw [e, if_pos (by decide), if_pos rfl]; rfl
        · rw [e, if_neg (nI_pos (by omega)), if_neg (m1ne (by omega))]; rfl
      rw [a1, if_neg (by decide), if_neg (by decide), if_neg (by decide), if_neg (by decide), if_pos rfl, argPort_eq h ha, hm, Option.bind_some]
      by_cases z : PT m n 40 (cl m n + 1) 0 0 = -1
      · rw [if_pos z, if_pos z]
        exact ⟨0, c, rfl, rfl, Or.inl rfl, rfl, fun z => absurd z (by decide)⟩
      · rw [if_neg z, if_neg z]
        refine ⟨1, c, rfl, rfl, Or.inr rfl, rfl, fun _ => ⟨fun z => ?_, fun z => ?_, fun z => ?_, fun z => ?_, fun _ => ⟨ha, z⟩⟩⟩
        · rcases z with z | z | z | z | z | z | z | z | z | z <;> cases z
        · omega
        · omega
        · omega
    · subst a2
      have hm : m_argumentFits (nI (13 + 1)) m = some 1 := by
        rw [m_argumentFits, hf, e0, Option.bind_some]; rfl
      rw [a1, if_neg (by decide), if_neg (by decide), if_neg (by decide), if_neg (by decide), if_neg (by decide), if_pos rfl, hm]
      refine ⟨1, c, rfl, rfl, Or.inr rfl, rfl, fun _ => ⟨fun z => ?_, fun z => ?_, fun _ => ha, fun z => ?_, fun z => ?_⟩⟩
      · rcases z with z | z | z | z | z | z | z | z | z | z <;> cases z
      · omega
      · omega
      · omega
  · have hn' : n = cl m n := by omega
    rw [if_pos (by omega)] at hf
    obtain ⟨y, y1, y2, y3, y4, y5⟩ := stay_np (c := c)
    rw [if_neg ha, if_pos rfl, y1, Option.bind_some, nd22 hk, Option.bind_some, m_fits_no hk hf]
    rcases arg_tab k hk with ⟨a1, a2⟩ | ⟨a1, a2⟩ | ⟨a1, a2⟩ | ⟨a1, a2⟩ | ⟨a1, a2⟩ | ⟨a1, a2⟩ | ⟨a1, a2⟩
    · rw [a1, if_pos (Or.inl a2), if_pos rfl]
      refine ⟨1, y, rfl, rfl, Or.inr rfl, y2, fun _ => ⟨fun z => ?_, fun z => ?_, fun z => ?_, fun z => ?_, fun z => ?_⟩⟩
      · unfold isA2 at z; omega
      · omega
      · omega
      · omega
      · omega
    · rw [a1, if_neg (show ¬ ((k = 2 ∨ k = 3 ∨ k = 4 ∨ k = 6 ∨ k = 15 ∨ k = 17) ∨ k = 21) by omega), if_neg (by decide), if_neg (by decide)]
      exact ⟨0, y, rfl, rfl, Or.inl rfl, y2, fun z => absurd z (by decide)⟩
    · rw [a1, if_neg (show ¬ ((k = 2 ∨ k = 3 ∨ k = 4 ∨ k = 6 ∨ k = 15 ∨ k = 17) ∨ k = 21) by omega), if_neg (by decide), if_neg (by decide)]
      exact ⟨0, y, rfl, rfl, Or.inl rfl, y2, fun z => absurd z (by decide)⟩
    · rw [a1, if_pos (Or.inr a2), if_neg (by decide), if_pos rfl]
      refine ⟨1, y, rfl, rfl, Or.inr rfl, y2, fun _ => ⟨fun z => ?_, fun _ => Or.inr ⟨hn', y3, y4, y5⟩, fun z => ?_, fun z => ?_, fun z => ?_⟩⟩
      · unfold isA2 at z; omega
      · omega
      · omega
      · omega
    all_goals
      rw [a1, if_neg (show ¬ ((k = 2 ∨ k = 3 ∨ k = 4 ∨ k = 6 ∨ k = 15 ∨ k = 17) ∨ k = 21) by omega), if_neg (by decide), if_neg (by decide)]
      exact ⟨0, y, rfl, rfl, Or.inl rfl, y2, fun z => absurd z (by decide)⟩
