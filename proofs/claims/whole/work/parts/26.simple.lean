/-! type, word, text, take, give -/
theorem vnar {a : Nat} (ha : a < 65536) : vp_nar .char (nI a) = nI a := by
  have h := (pk_charN ha).1
  unfold vp_nar
  rw [h]
theorem guC {a : Nat} (ha : a < 65536) {A : Type} (o : Option A) : guardC (nI a) o = o := by
  unfold guardC
  rw [← vp_nar_char, vnar ha, if_pos rfl]
theorem clI {a : Nat} (ha : a < 2 ^ 31) : (nI a).toNatClampNeg = a := nI_clamp ha
theorem add_type (p : Int32) {c m : Hp} (h : Rel c m) : ∃ r c' m', line_add p c = some (r, c') ∧ m_type p m = some (r, m') ∧ (r = 0 ∨ r = 1) ∧ Rel c' m' ∧ hiP c' = hiP c ∧ loP m' = loP m := by
  obtain ⟨⟨n, l1, l2, l3, l4⟩, hr⟩ := id h
  unfold line_add m_type
  by_cases a : p < 32
  · rw [if_pos a, if_pos a]
    exact ⟨_, _, _, rfl, rfl, Or.inl rfl, h, rfl, rfl⟩
  · rw [if_neg a, if_neg a]
    by_cases b : 126 < p
    · rw [if_pos b, if_pos b]
      exact ⟨_, _, _, rfl, rfl, Or.inl rfl, h, rfl, rfl⟩
    · rw [if_neg b, if_neg b]
      obtain ⟨q, q1, rfl⟩ : ∃ q : Nat, q ≤ 126 ∧ p = nI q := nI_of2 (M := 126) rfl (by
        intro z; apply a; simp only [Int32.le_iff_toInt_le, Int32.lt_iff_toInt_lt, ← Int32.toInt_inj, nI_toInt, Int32.reduceToInt] at z ⊢; omega) (by simp only [Int32.le_iff_toInt_le, Int32.lt_iff_toInt_lt, ← Int32.toInt_inj, nI_toInt, Int32.reduceToInt] at b ⊢; omega)
      have q2 : 32 ≤ q := by
        simp (disch := omega) only [Int32.le_iff_toInt_le, Int32.lt_iff_toInt_lt, ← Int32.toInt_inj, nI_toInt, Int32.reduceToInt] at a; omega
      have e1 : (nI n < (32 : Int32)) = (n < 32) := by
        simp (disch := omega) only [Int32.le_iff_toInt_le, Int32.lt_iff_toInt_lt, ← Int32.toInt_inj, nI_toInt, Int32.reduceToInt]; exact propext (by omega)
      have e2 : (nI n = (32 : Int32)) = (n = 32) := propext (nI_eq (b := 32) (by omega) (by decide))
      simp only [l2, l3, e1, e2]
      by_cases w : n = 32
      · rw [if_neg (by omega), if_pos w]
        exact ⟨_, _, _, rfl, rfl, Or.inl rfl, h, rfl, rfl⟩
      · rw [if_pos (by omega), if_neg w, gB (by omega) (by decide), gB (by omega) (by decide), clI (by omega), vnar (by omega)]
        refine ⟨_, _, _, rfl, rfl, Or.inr rfl, ⟨⟨n + 1, by omega, ?_, ?_, ?_⟩, hr⟩, ?_, ?_⟩
        · rw [← nI_1, ← l2]; rfl
        · rw [← nI_1, ← l3]; rfl
        · intro j hj
          show (if (2, 0) = ((2, 0) : Ad) ∧ j = n then nI q else gI c (2, 0) j) = (if (29, 0) = ((29, 0) : Ad) ∧ j = n then nI q else gI m (29, 0) j) ∧ (if (29, 0) = ((29, 0) : Ad) ∧ j = n then nI q else gI m (29, 0) j) = nI (if (29, 0) = ((29, 0) : Ad) ∧ j = n then nI q else gI m (29, 0) j).toNatClampNeg ∧ 32 ≤ (if (29, 0) = ((29, 0) : Ad) ∧ j = n then nI q else gI m (29, 0) j).toNatClampNeg ∧ (if (29, 0) = ((29, 0) : Ad) ∧ j = n then nI q else gI m (29, 0) j).toNatClampNeg ≤ 126
          by_cases e : j = n
          · simp only [e, and_self, if_true]
            rw [clI (by omega)]
            exact ⟨trivial, rfl, q2, q1⟩
          · simp only [e, and_false, if_false]
            exact l4 j (by omega)
        · simp (disch := decide) only [hiP_sI]
        · simp (disch := decide) only [loP_sI]
theorem op_type (p : Int32) : Op (r_type p) (m_type p) := by
  intro c m h
  obtain ⟨r, c', m', e1, e2, e3, e4⟩ := add_type p h
  refine ⟨r, c', m', ?_, e2, e4⟩
  rw [r_type, e1, Option.bind_some]
  rcases e3 with rfl | rfl <;> rfl
theorem op_word (p : Int64) : Op (r_word p) (m_word p) := by
  intro c m h
  obtain ⟨w, hw, rfl⟩ := wb_of p
  have key : ∃ x y, iter (r_word_l2 (lN w)) FU ((0 : Int32), c) = some x ∧ iter (m_word_l2 (lN w)) FU ((0 : Int32), m) = some y ∧ ∃ r c' m', (x.elim (fun r => some r) fun u => some ((8 : Int32), u.2)) = some (r, c') ∧ y = (r, m') ∧ Rel c' m' ∧ hiP c' = hiP c ∧ loP m' = loP m := by
    refine iterR (P := fun k s t => ∃ j c' m', j + k = 8 ∧ s = (nI j, c') ∧ t = (nI j, m') ∧ Rel c' m' ∧ hiP c' = hiP c ∧ loP m' = loP m) ?_ FU 8 _ _ ⟨0, c, m, rfl, rfl, rfl, h, rfl, rfl⟩ (by decide)
    rintro k s t ⟨j, c', m', e, rfl, rfl, hr, f1, f2⟩
    rw [r_word_l2, m_word_l2]
    by_cases j8 : j = 8
    · subst j8
      left
      rw [if_pos (by decide), if_pos (by decide)]
      exact ⟨_, _, rfl, rfl, _, _, _, rfl, rfl, hr, f1, f2⟩
    · have c1 : ¬ (8 : Int32) ≤ nI j := by
        simp (disch := omega) only [Int32.le_iff_toInt_le, Int32.lt_iff_toInt_lt, ← Int32.toInt_inj, nI_toInt, Int32.reduceToInt]; omega
      have hb := bw_lt w j
      rw [if_neg c1, if_neg c1, byC' hw (by omega), byM' (by omega)]
      by_cases z : bw w j = 0
      · left
        rw [z, if_pos (show lN 0 = 0 from rfl)]
        refine ⟨.inl (nI j, c'), (nI j, m'), ?_, rfl, _, _, _, rfl, rfl, hr, f1, f2⟩
        rfl
      · have c2 : ¬ lN (bw w j) = (0 : Int64) := fun q => z ((lN_inj (b := 0) (by omega) (by decide)).mp q)
        rw [if_neg c2]
        obtain ⟨r, c2, m2, a1, a2, a3, a4, a5, a6⟩ := add_type ((lN (bw w j)).toInt32.toUInt32 % 65536).toInt32 hr
        rw [a1, a2, Option.bind_some, Option.bind_some]
        rcases a3 with rfl | rfl
        · left
          exact ⟨.inl (nI j, c2), (nI j, m2), rfl, rfl, _, _, _, rfl, rfl, a4, a5.trans f1, a6.trans f2⟩
        · right
          exact ⟨(nI j + 1, c2), (nI j + 1, m2), k - 1, by omega, rfl, rfl, j + 1, c2, m2, by omega, by rw [nI_1], by rw [nI_1], a4, a5.trans f1, a6.trans f2⟩
  obtain ⟨x, y, e1, e2, r, c', m', e3, rfl, e4⟩ := key
  refine ⟨r, c', m', ?_, ?_, e4⟩
  · rw [r_word, e1, Option.bind_some, e3]
  · rw [m_word, e2, Option.bind_some]
theorem op_text (p : Int32) : Rd (r_text p) (m_text p) := by
  rintro c m ⟨-, ⟨-, s, -⟩, -, hm, -⟩
  unfold r_text m_text
  rw [s]
  have e0 : ∀ o : Option Int32, (if p < 0 then some 0 else if (0 : Int32) ≤ p then some 0 else o) = some 0 := fun o => by
    by_cases a : p < 0
    · rw [if_pos a]
    · rw [if_neg a, if_pos (by simp only [Int32.le_iff_toInt_le, Int32.lt_iff_toInt_lt, ← Int32.toInt_inj, nI_toInt, Int32.reduceToInt] at a ⊢; omega)]
  rcases hm with ⟨hm, len, m1, m2, m3, m4⟩ | ⟨h1, h2, h3⟩
  · have k : ∃ x, msg_at p c = some x ∧ (if p < 0 then some (0 : Int32) else if (gI m (20, 0) 14) ≤ p then some 0 else guardB p 200 (some (gI m (30, 0) p.toNatClampNeg))) = some x ∧ ∃ a, a < 256 ∧ x = nI a := by
      unfold msg_at
      rw [m2, m3]
      by_cases a : p < 0
      · rw [if_pos a, if_pos a]
        exact ⟨0, rfl, rfl, 0, by decide, rfl⟩
      · rw [if_neg a, if_neg a]
        obtain ⟨j, j1, rfl⟩ := nI_of a
        have e1 : ((168 : Int32) - nI (168 - len) ≤ nI j) = (len ≤ j) := by
          rw [show (168 : Int32) - nI (168 - len) = nI len by
            rw [show (168 : Int32) = nI (len + (168 - len)) by rw [show len + (168 - len) = 168 by omega]; rfl, ← nI_add, Int32.add_sub_cancel]]
          exact propext (nI_leI (by omega) (by omega))
        have e2 : (nI len ≤ nI j) = (len ≤ j) := propext (nI_leI (by omega) (by omega))
        simp only [e1, e2]
        by_cases b : len ≤ j
        · rw [if_pos b, if_pos b]
          exact ⟨0, rfl, rfl, 0, by decide, rfl⟩
        · rw [if_neg b, if_neg b, nI_add, gB (by omega) (by decide), gB (by omega) (by decide), clI (by omega), clI (by omega)]
          obtain ⟨q1, a, q2, q3⟩ := m4 j (by omega)
          refine ⟨nI a, ?_, by rw [q3], a, q2, rfl⟩
          rw [q1, q3, Option.bind_some, guC (by omega)]
    obtain ⟨x, k1, k2, a, k3, rfl⟩ := k
    refine ⟨nI a, ?_, ?_⟩
    · rw [k1]
      have : (if gI m (20, 0) 13 = 257 then (some (nI a)).bind fun y3 => some y3 else if gI m (20, 0) 13 = 213 then (some (nI a)).bind fun y5 => some y5 else some (0 : Int32)) = some (nI a) := by
        rcases hm with z | z
        · rw [if_pos z]; rfl
        · rw [if_neg (by rw [z]; decide), if_pos z]; rfl
      rw [this, Option.bind_some, guC (by omega)]
    · rw [k2, Option.bind_some, guC (by omega)]
  · rw [if_neg h1, if_neg h2, h3, e0]
    exact ⟨0, rfl, rfl⟩

theorem op_give (p : Int32) : Op (r_give p) (m_give p) := by
  intro c m h
  obtain ⟨hl, hs, hw, hm, hn, hd, ha, hg, he, k, hc⟩ := id h
  unfold r_give m_give
  rw [k]
  rcases hc with ⟨h1, h2, h3⟩ | ⟨h1, hh⟩ | ⟨h1, h0, len, h2, h3, h4, h5, h6⟩
  · rw [h1, if_neg (by decide), if_neg (by decide)]
    exact ⟨_, _, _, rfl, rfl, h, rfl, rfl⟩
  · rw [h1, if_neg (by decide), if_neg (by decide)]
    exact ⟨_, _, _, rfl, rfl, h, rfl, rfl⟩
  · rw [h1, if_pos rfl, if_pos rfl]
    unfold cargo_receive m_put
    rw [h3, h4]
    have e1 : (nI len < (80 : Int32)) = (len < 80) := by
      simp (disch := omega) only [Int32.le_iff_toInt_le, Int32.lt_iff_toInt_lt, ← Int32.toInt_inj, nI_toInt, Int32.reduceToInt]; exact propext (by omega)
    have e2 : (nI len = (80 : Int32)) = (len = 80) := propext (nI_eq (b := 80) (by omega) (by decide))
    simp only [e1, e2]
    by_cases w : len = 80
    · rw [if_neg (by omega), if_pos w]
      exact ⟨_, _, _, rfl, rfl, h, rfl, rfl⟩
    · rw [if_pos (by omega), if_neg w, gB (by omega) (by decide)]
      unfold cargo_add
      have e3 : ((192 : Int32) ≤ nI len) = (192 ≤ len) := by
        simp (disch := omega) only [Int32.le_iff_toInt_le, Int32.lt_iff_toInt_lt, ← Int32.toInt_inj, nI_toInt, Int32.reduceToInt]; exact propext (by omega)
      simp only [h3, e3]
      rw [if_neg (by omega), gB (by omega) (by decide), clI (by omega)]
      refine ⟨_, _, _, rfl, rfl, ⟨hl, hs, hw, hm, hn, hd, ha, hg, he, k, Or.inr (Or.inr ⟨h1, h0, len + 1, by omega, ?_, ?_, ?_, h6⟩)⟩, ?_, ?_⟩
      · rw [← nI_1, ← h3]; rfl
      · rw [← nI_1, ← h4]; rfl
      · intro j hj
        show (if (13, 0) = ((13, 0) : Ad) ∧ j = len then p &&& 255 else gI c (13, 0) j) = (if (31, 0) = ((31, 0) : Ad) ∧ j = len then p &&& 255 else gI m (31, 0) j) ∧ isB (if (31, 0) = ((31, 0) : Ad) ∧ j = len then p &&& 255 else gI m (31, 0) j)
        by_cases e : j = len
        · simp only [e, and_self, if_true]
          refine ⟨trivial, ?_⟩
          obtain ⟨q, q1, rfl⟩ := wb_of32 p
          refine ⟨q % 256, Nat.mod_lt _ (by decide), ?_⟩
          rw [show (255 : Int32) = nI 255 from rfl]
          apply Int32.toBitVec_inj.mp
          rw [Int32.toBitVec_and]
          show BitVec.ofNat 32 q &&& BitVec.ofNat 32 255 = BitVec.ofNat 32 (q % 256)
          apply BitVec.eq_of_toNat_eq
          rw [BitVec.toNat_and, BitVec.toNat_ofNat, BitVec.toNat_ofNat, BitVec.toNat_ofNat, Nat.mod_eq_of_lt q1]
          exact (Nat.and_two_pow_sub_one_eq_mod q 8).trans (Nat.mod_eq_of_lt (by omega)).symm
        · simp only [e, and_false, if_false]
          exact h5 j (by omega)
      · simp (disch := decide) only [hiP_sI]
      · simp (disch := decide) only [loP_sI]
theorem op_take : Op r_take m_take := by
  intro c m h
  obtain ⟨hl, hs, hw, hm, hn, hd, ha, hg, he, k, hc⟩ := id h
  unfold r_take m_take
  rw [k]
  rcases hc with ⟨h1, h2, h3⟩ | ⟨h1, h0, len, p, h2, h3, h4, h5, h6, h7, h8⟩ | ⟨h1, hh⟩
  · rw [h1, if_neg (by decide), if_neg (by decide)]
    exact ⟨_, _, _, rfl, rfl, h, rfl, rfl⟩
  · rw [h1, if_pos rfl, if_pos rfl]
    unfold cargo_next
    have e1 : (nI len ≤ nI p) = (len ≤ p) := propext (nI_leI (by omega) (by omega))
    simp only [h4, h5, h6, h7, e1]
    by_cases w : len ≤ p
    · rw [if_pos w, if_pos w]
      obtain ⟨hs1, hs2, hs3⟩ := hs
      refine ⟨_, _, _, rfl, rfl, ⟨hl, ⟨hs1, rfl, hs3⟩, ⟨0, by decide, rfl, rfl, fun q => by cases q⟩, Or.inr ⟨by show (226 : Int32) ≠ 257; decide, by show (226 : Int32) ≠ 213; decide, rfl⟩, hn, hd, ha, hg, he, rfl, Or.inl ⟨rfl, rfl, rfl⟩⟩, ?_, ?_⟩
      · simp (disch := decide) only [hiP_sI, hiP_sL, hiP_sR]
      · simp (disch := decide) only [loP_sI, loP_sL]
    · rw [if_neg w, if_neg w]
      have e2 : (nI p < (192 : Int32)) = (p < 192) := by
        simp (disch := omega) only [Int32.le_iff_toInt_le, Int32.lt_iff_toInt_lt, ← Int32.toInt_inj, nI_toInt, Int32.reduceToInt]; exact propext (by omega)
      have g1 : ∀ v, gI (sI c (12, 0) 3 v) (12, 0) 3 = v := fun _ => rfl
      have g2 : ∀ v, gI (sI m (20, 0) 29 v) (20, 0) 29 = v := fun _ => rfl
      have g3 : nI p + 1 - 1 = nI p := by rw [nI_1, nI_pred]
      have g4 : ∀ v, gI (sI c (12, 0) 3 v) (13, 0) p = gI c (13, 0) p := fun _ => rfl
      have g5 : ∀ v, gI (sI m (20, 0) 29 v) (31, 0) p = gI m (31, 0) p := fun _ => rfl
      simp only [e2, g1, g2, g3]
      rw [if_pos (by omega), gB (by omega) (by decide), gB (by omega) (by decide), clI (by omega), g4, g5]
      obtain ⟨q1, a, q2, q3⟩ := h8 p (by omega)
      rw [q1, q3, Option.bind_some, if_neg]
      · refine ⟨_, _, _, rfl, rfl, ⟨hl, hs, hw, hm, hn, hd, ha, hg, he, k, Or.inr (Or.inl ⟨h1, h0, len, p + 1, h2, by omega, h4, ?_, h6, ?_, h8⟩)⟩, ?_, ?_⟩
        · rw [← nI_1]; rfl
        · rw [← nI_1]; rfl
        · simp (disch := decide) only [hiP_sI]
        · simp (disch := decide) only [loP_sI]
      · intro z
        have z' := congrArg Int32.toInt z
        rw [nI_toInt (by omega)] at z'
        have : (-1 : Int32).toInt = -1 := rfl
        omega
  · rw [h1, if_neg (by decide), if_neg (by decide)]
    exact ⟨_, _, _, rfl, rfl, h, rfl, rfl⟩
