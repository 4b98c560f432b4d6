/-! end: both sides -/
theorem stay_both {c m : Hp} {len : Nat} (hl : len ≤ 80) (hc : gI c (12, 0) 2 = nI len) (hm : gI m (20, 0) 30 = nI len) (hi : gI c (0, 0) 12 = gI m (20, 0) 18) (hd : ∀ j, j < len → gI c (13, 0) j = gI m (31, 0) j ∧ isB (gI m (31, 0) j)) : ∃ c' m' p, (if (gI c (0, 0) 12) = 0 then (cargo_leaveOutReturns c).bind fun y3 => some y3 else some c) = some c' ∧ m_staying m = some (nI p, m') ∧ p ≤ 80 ∧ gI c' (12, 0) 2 = nI p ∧ npC c' = npC c ∧ npL m' = npL m ∧ ∀ j, j < p → gI c' (13, 0) j = gI m' (31, 0) j ∧ isB (gI m' (31, 0) j) := by
  rw [hi]
  by_cases z : gI m (20, 0) 18 = 0
  · obtain ⟨c', m', p, e1, e2, e3, e4, e5, e6, e7⟩ := stay_ascii hl hc hm z hd
    rw [if_pos z, e1]
    exact ⟨c', m', p, rfl, e2, by omega, e4, e5, e6, e7⟩
  · obtain ⟨m', e1, e2, e3⟩ := stay_image hl hm z
    rw [if_neg z]
    exact ⟨c, m', len, rfl, e1, hl, hc, rfl, e2, fun j hj => by rw [e3 j]; exact hd j hj⟩
theorem bef_eq {n : Nat} {c m : Hp} (h : QT n c m) : ∃ bz, bz ≤ 32 ∧ (if (gR c (12, 0) 4) = none then some (0 : Int32) else (nd 24 (gR c (12, 0) 4)).bind fun x6 => some (gI c (5, x6) 1)) = some (nI bz) ∧ (if 0 ≤ (gI m (20, 0) 32) then guardB (gI m (20, 0) 32) 24 <| some (gI m (24, 0) (gI m (20, 0) 32).toNatClampNeg) else some (0 : Int32)) = some (nI bz) := by
  obtain ⟨⟨hl, hs, hn, hd, ha, hg, he⟩, hap, h01, hpl⟩ := h
  rcases hpl with ⟨t, t1, t2, t3, t4⟩ | ⟨t1, t2, -⟩
  · rcases hn t t1 with h | h | ⟨-, -, -, ⟨z, z1, z2, z3, -⟩, -⟩
    · rw [t4] at h; exact absurd h.1 (by decide)
    · rw [t4] at h; exact absurd h.1 (by decide)
    · rw [t2, t3, if_neg (fun q => by cases q), nd24 t1, Option.bind_some, z2, if_pos (nI_pos' (by omega)), gB t1 (by decide), clI (by omega), z3]
      exact ⟨z, z1, rfl, rfl⟩
  · rw [t1, t2, if_pos rfl, if_neg (by decide)]
    exact ⟨0, by decide, rfl, rfl⟩
theorem kept_eq {a b : Int32} {bz : Nat} (e : a = b) : ∃ kz, kz ≤ bz ∧ (if a = 0 then some (0 : Int32) else some (nI bz)) = some (nI kz) ∧ (if b = 0 then some (0 : Int32) else some (nI bz)) = some (nI kz) := by
  subst e
  by_cases z : a = 0
  · rw [if_pos z]
    exact ⟨0, by omega, rfl, rfl⟩
  · rw [if_neg z]
    exact ⟨bz, by omega, rfl, rfl⟩
theorem op_end : Op r_end m_end := by
  intro c m h
  obtain ⟨⟨n, hl⟩, hs, hw, hmsg, hn, hd, ha, hg, he, hk⟩ := id h
  by_cases z : gI m (20, 0) 28 = 2
  · have hk3 : ∃ len, len ≤ 80 ∧ gI c (12, 0) 2 = nI len ∧ gI m (20, 0) 30 = nI len ∧ (∀ j, j < len → gI c (13, 0) j = gI m (31, 0) j ∧ isB (gI m (31, 0) j)) ∧ gI c (12, 0) 7 = gI m (20, 0) 33 ∧ r01 (gI m (20, 0) 33) ∧ rPl c m := by
      rcases hk.2 with q | q | q
      · rw [z] at q; exact absurd q.1 (by decide)
      · rw [z] at q; exact absurd q.1 (by decide)
      · exact q.2.2
    obtain ⟨len, k1, k2, k3, k4, k5, k6, k7⟩ := hk3
    have q0 : QT n c (sI (sI m (20, 0) 28 (0 : Int32)) (20, 0) 25 (0 : Int32)) := ⟨⟨hl, hs, hn, hd, ha, hg, he⟩, k5, k6, k7⟩
    have i0 : gI c (0, 0) 12 = gI (sI (sI m (20, 0) 28 (0 : Int32)) (20, 0) 25 (0 : Int32)) (20, 0) 18 := hs.2.2.1.1
    obtain ⟨c2, m2, p, s1, s2, s3, s4, s5, s6, s7⟩ := stay_both (c := c) (m := sI (sI m (20, 0) 28 (0 : Int32)) (20, 0) 25 (0 : Int32)) k1 k2 k3 i0 k4
    have q2 := QT_C q0 s5 s6
    have m28 : gI m2 (20, 0) 28 = 0 := by rw [npL_I s6 (by decide)]; rfl
    have m25 : gI m2 (20, 0) 25 = 0 := by rw [npL_I s6 (by decide)]; rfl
    have hi2 : hiP c2 = hiP c := npC_hi s5
    have lo2 : loP m2 = loP m := by rw [npL_lo s6]; simp (disch := decide) only [loP_sI, loP_sL]
    obtain ⟨bz, b1, b2, b3⟩ := bef_eq q2
    obtain ⟨kz, g1, g2, g3⟩ := kept_eq (bz := bz) q2.2.1
    have e32 : ((32 : Int32) < nI (kz + p)) = (32 < kz + p) := nlt (n := 32) (k := kz + p) (by omega) (by decide)
    obtain ⟨x, x1, x2⟩ := bytes_eq q2.1.2.2.1
    have cw : r_end c = ((if 32 < kz + p then some ((0 : Int32), c2) else if ((x - nI bz) + nI (kz + p)) ≤ (200 : Int32) then (if (gR c2 (12, 0) 4) = none then (tree_add (gR c2 (12, 0) 5) (gL c2 (12, 0) 6) (0 : Int32) c2).bind fun y14 => some (y14.1, y14.2) else some ((gR c2 (12, 0) 4), c2)).bind fun t13 => if t13.1 = none then some ((0 : Int32), t13.2) else (nd 24 t13.1).bind fun x16 => guardA (0 : Int32) 192 (nI kz) 32 (gI t13.2 (12, 0) 2) <| some ((1 : Int32), (sI (cpI t13.2 (13, 0) (6, x16) (0 : Int32).toNatClampNeg (nI kz).toNatClampNeg (gI t13.2 (12, 0) 2).toNatClampNeg) (5, x16) 1 (nI (kz + p)))) else some ((0 : Int32), c2)).bind fun y2 => (if y2.1 = 0 then some (452 : Int32) else some (226 : Int32)).bind fun t4 => (r_dropTransfer (sI y2.2 (0, 0) 9 t4)).bind fun y5 => some ((gI y5 (0, 0) 9), y5)) := by
      rw [r_end, hk.1, z, if_pos rfl, r_storeCargo, s1, Option.bind_some, b2, Option.bind_some, g2, Option.bind_some, s4, nI_add, x1, Option.bind_some]
      simp only [e32]
    have tw : m_end m = if 32 < kz + p then some ((452 : Int32), sI (sI m2 (20, 0) 13 (452 : Int32)) (20, 0) 14 (0 : Int32)) else if ((x - nI bz) + nI (kz + p)) ≤ (200 : Int32) then (if 0 ≤ (gI m2 (20, 0) 32) then some (gI m2 (20, 0) 32) else (m_freeNode m2).bind fun y14 => some y14).bind fun t13 => (if 0 ≤ (gI m2 (20, 0) 32) then some m2 else (m_make t13 (2 : Int32) (gI m2 (20, 0) 34) (gL m2 (20, 0) 35) m2).bind fun y17 => some y17).bind fun t16 => (iter (m_end_l136 (nI p) (nI kz) t13) FU ((0 : Int32), t16)).bind fun t21 => guardB t13 24 <| some ((226 : Int32), sI (sI (sI t21.2 (24, 0) t13.toNatClampNeg (nI kz + nI p)) (20, 0) 13 (226 : Int32)) (20, 0) 14 (0 : Int32)) else some ((452 : Int32), sI (sI m2 (20, 0) 13 (452 : Int32)) (20, 0) 14 (0 : Int32)) := by
      have s452 : ∀ h, (m_say (452 : Int32) h).bind (fun y => some (y.1, y.2)) = some ((452 : Int32), sI (sI h (20, 0) 13 (452 : Int32)) (20, 0) 14 (0 : Int32)) := fun h => by
        rw [eta, m_say, if_neg (by decide), if_neg (by decide), Option.bind_some]
      have s226 : ∀ h, (m_say (226 : Int32) h).bind (fun y => some (y.1, y.2)) = some ((226 : Int32), sI (sI h (20, 0) 13 (226 : Int32)) (20, 0) 14 (0 : Int32)) := fun h => by
        rw [eta, m_say, if_neg (by decide), if_neg (by decide), Option.bind_some]
      rw [m_end, z, if_pos rfl, s2, Option.bind_some, b3, Option.bind_some, g3, Option.bind_some, nI_add, x2, Option.bind_some, Int32.add_assoc, nI_add]
      simp only [e32, s452, s226]
    have bad : ∀ o o' : Option (Int32 × Hp), o = some (452, drp (sI c2 (0, 0) 9 (452 : Int32))) → o' = some ((452 : Int32), sI (sI m2 (20, 0) 13 (452 : Int32)) (20, 0) 14 (0 : Int32)) → ∃ r c' m', o = some (r, c') ∧ o' = some (r, m') ∧ Rel c' m' ∧ hiP c' = hiP c ∧ loP m' = loP m := fun o o' e1 e2 => by
      refine ⟨452, _, _, e1, e2, fin_Y q2.1 m28 m25 (by decide), ?_, ?_⟩
      · rw [drp_hi, hiP_sI (by decide), hi2]
      · rw [loP_sI (by decide), loP_sI (by decide), lo2]
    by_cases w1 : 32 < kz + p
    · rw [if_pos w1] at cw tw
      exact bad _ _ (by rw [cw]; rfl) tw
    · rw [if_neg w1] at cw tw
      by_cases w2 : ((x - nI bz) + nI (kz + p)) ≤ (200 : Int32)
      · rw [if_pos w2] at cw tw
        have fin : ∀ (c3 m3 : Hp) (t zz : Nat), QE n c3 m3 → t < 24 → gI m3 (21, 0) t = 2 → gI c3 (5, t) 1 = nI zz → gI m3 (24, 0) t = nI zz → zz ≤ 32 → kz ≤ zz → gI c3 (12, 0) 2 = nI p → (∀ j, j < p → gI c3 (13, 0) j = gI m3 (31, 0) j ∧ isB (gI m3 (31, 0) j)) → gI m3 (20, 0) 28 = 0 → gI m3 (20, 0) 25 = 0 → hiP c3 = hiP c → loP m3 = loP m → (r_end c = ((nd 24 (some t)).bind fun x16 => guardA (0 : Int32) 192 (nI kz) 32 (gI c3 (12, 0) 2) <| some ((1 : Int32), (sI (cpI c3 (13, 0) (6, x16) (0 : Int32).toNatClampNeg (nI kz).toNatClampNeg (gI c3 (12, 0) 2).toNatClampNeg) (5, x16) 1 (nI (kz + p))))).bind fun y2 => (if y2.1 = 0 then some (452 : Int32) else some (226 : Int32)).bind fun t4 => (r_dropTransfer (sI y2.2 (0, 0) 9 t4)).bind fun y5 => some ((gI y5 (0, 0) 9), y5)) → (m_end m = (iter (m_end_l136 (nI p) (nI kz) (nI t)) FU ((0 : Int32), m3)).bind fun t21 => guardB (nI t) 24 <| some ((226 : Int32), sI (sI (sI t21.2 (24, 0) (nI t).toNatClampNeg (nI kz + nI p)) (20, 0) 13 (226 : Int32)) (20, 0) 14 (0 : Int32))) → ∃ r c' m', r_end c = some (r, c') ∧ m_end m = some (r, m') ∧ Rel c' m' ∧ hiP c' = hiP c ∧ loP m' = loP m := by
          intro c3 m3 t zz f1 f2 f3 f4 f5 f6 f7 f8 f9 f10 f11 f12 f13 f14 f15
          obtain ⟨u, u1, u2, u3⟩ := copy_m (m := m3) (kz := kz) (p := p) f2 (by omega)
          have hq := fill_Q f1 f2 f3 f4 f5 f6 f7 (show kz + p ≤ 32 by omega) f9 u2 u3
          rw [nd24 f2, Option.bind_some, f8, guardA_ok (by omega), Option.bind_some, if_neg one_ne, Option.bind_some, drp_eq, Option.bind_some, clI (by omega), clI (by omega)] at f14
          rw [u1, Option.bind_some, gB f2 (by decide), nI_add, clI (by omega)] at f15
          refine ⟨226, _, _, f14, f15, fin_Y hq ?_ ?_ (by decide), ?_, ?_⟩
          · show gI u.2 (20, 0) 28 = 0
            rw [npD_I u2 (by decide), f10]
          · show gI u.2 (20, 0) 25 = 0
            rw [npD_I u2 (by decide), f11]
          · rw [drp_hi, hiP_sI (by decide), hiP_sI (by decide), hiP_cp (by decide), f12]
          · rw [loP_sI (by decide), loP_sI (by decide), loP_sI (by decide), npD_lo u2, f13]
        obtain ⟨qe, qa, q01, qpl⟩ := id q2
        obtain ⟨hl2, hs2, hn2, hd2, ha2, hg2, he2⟩ := id qe
        rcases qpl with ⟨t, t1, t2, t3, t4⟩ | ⟨t1, t2, ⟨pd, p1, p2, p3, p4⟩, t5, t6, i, i1, i2⟩
        · have hz : gI c2 (5, t) 1 = nI bz ∧ gI m2 (24, 0) t = nI bz := by
            rw [t2, if_neg (fun q => by cases q), nd24 t1, Option.bind_some] at b2
            rw [t3, if_pos (nI_pos' (by omega)), gB t1 (by decide), clI (by omega)] at b3
            exact ⟨Option.some.inj b2, Option.some.inj b3⟩
          refine fin c2 m2 t bz qe t1 t4 hz.1 hz.2 b1 g1 s4 s7 m28 m25 hi2 lo2 ?_ ?_
          · rw [cw, t2, if_neg (show ¬ (some t : Option Nat) = none from fun q => by cases q), Option.bind_some, if_neg (show ¬ (some t : Option Nat) = none from fun q => by cases q)]
          · rw [tw, t3, if_pos (nI_pos' (show t < 2 ^ 31 by omega)), Option.bind_some, if_pos (nI_pos' (show t < 2 ^ 31 by omega)), Option.bind_some]
        · have hbz : bz = 0 := by
            rw [t1, if_pos rfl] at b2
            have := Option.some.inj b2
            exact ((nI_eq (a := 0) (by decide) (by omega)).mp this).symm
          have hkz : kz = 0 := by omega
          cases hfr : ffi (frB m2) 24 with
          | none => exact absurd i2 (fr_none hfr i i1)
          | some k =>
            obtain ⟨f1, f2⟩ := fr_some hfr
            have hN := add_N (kd := 2) (dir := 0) (nm := gL m2 (20, 0) 35) ⟨hn2, hd2, ha2, hg2⟩ f1 f2 p1 p4 t6 (Or.inr ⟨rfl, rfl⟩) rfl rfl
            obtain ⟨a1, a2, a3, a4⟩ := hN
            have k21 : gI (sI (sL (sI (sI m2 (21, 0) k (2 : Int32)) (22, 0) k (nI pd)) (23, 0) k (gL m2 (20, 0) 35)) (24, 0) k (0 : Int32)) (21, 0) k = 2 := by
              show (if (21, 0) = ((21, 0) : Ad) ∧ k = k then (2 : Int32) else gI m2 (21, 0) k) = 2
              rw [if_pos ⟨rfl, rfl⟩]
            have k24 : gI (sI (sL (sI (sI m2 (21, 0) k (2 : Int32)) (22, 0) k (nI pd)) (23, 0) k (gL m2 (20, 0) 35)) (24, 0) k (0 : Int32)) (24, 0) k = nI 0 := by
              show (if (24, 0) = ((24, 0) : Ad) ∧ k = k then (0 : Int32) else gI m2 (24, 0) k) = 0
              rw [if_pos ⟨rfl, rfl⟩]
            have me : rMem c2 (sI (sL (sI (sI m2 (21, 0) k (2 : Int32)) (22, 0) k (nI pd)) (23, 0) k (gL m2 (20, 0) 35)) (24, 0) k (0 : Int32)) := rMem_k (c := c2) (m := m2) he2 rfl rfl rfl (fun j _ _ hu hp => by
              have hjk : j ≠ k := fun q => hu (by rw [q]; exact f2)
              constructor
              · show (if (21, 0) = ((21, 0) : Ad) ∧ j = k then (2 : Int32) else gI m2 (21, 0) j) ≠ 0
                rw [if_neg (fun q => hjk q.2)]
                exact hu
              · show (if (22, 0) = ((22, 0) : Ad) ∧ j = k then nI pd else gI m2 (22, 0) j) ≠ nI j
                rw [if_neg (fun q => hjk q.2)]
                exact hp)
            have c51 : gI (sI (sL (sR (sI c2 (5, k) 2 (1 : Int32)) (5, k) 5 (some pd)) (5, k) 4 (gL m2 (20, 0) 35)) (5, k) 3 (0 : Int32)) (5, k) 1 = nI 0 := by
              rcases hn2 k f1 with q | q | q
              · simp [gI_sI, gI_sL, gI_sR, q.2.2]; rfl
              · rw [f2] at q; exact absurd q.1 (by decide)
              · rw [f2] at q; exact absurd q.1 (by decide)
            refine fin (sI (sL (sR (sI c2 (5, k) 2 (1 : Int32)) (5, k) 5 (some pd)) (5, k) 4 (gL m2 (20, 0) 35)) (5, k) 3 (0 : Int32)) (sI (sL (sI (sI m2 (21, 0) k (2 : Int32)) (22, 0) k (nI pd)) (23, 0) k (gL m2 (20, 0) 35)) (24, 0) k (0 : Int32)) k 0 ⟨hl2, hs2, a1, a2, a3, a4, me⟩ f1 k21 c51 k24 (by decide) (by omega) s4 s7 m28 m25 ?_ ?_ ?_ ?_
            · rw [← hi2]; simp (disch := decide) only [hiP_sI, hiP_sL, hiP_sR]
            · rw [← lo2]; simp (disch := decide) only [loP_sI, loP_sL]
            · rw [cw, t1, if_pos rfl, p2, t5, add_eq hn2 (Or.inl rfl), hfr, Option.bind_some, Option.bind_some, if_neg (show ¬ (some k : Option Nat) = none from fun q => by cases q)]
            · rw [tw, t2, if_neg (by decide), free_eq hn2, hfr, Option.bind_some, Option.bind_some, if_neg (by decide), show (some k).getD 24 = k from rfl, p3, m_make, gB f1 (by decide), gB f1 (by decide), gB f1 (by decide), gB f1 (by decide), clI (by omega), Option.bind_some, Option.bind_some]
      · rw [if_neg w2] at cw tw
        exact bad _ _ (by rw [cw]; rfl) tw
  · refine ⟨-1, c, m, ?_, ?_, h, rfl, rfl⟩
    · rw [r_end, hk.1, if_neg z]
    · rw [m_end, if_neg z]
