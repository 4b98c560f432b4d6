/-! the way to a node, spelled on both sides -/
theorem signOf_eq {y k : Nat} (hy : y < 2 ^ 64) (hk : k < 6) (h : Hp) : name_signOf (lN y) (nI k) h = some (nI (bw y (5 - k))) := by
  rw [name_signOf, s5 k hk, byC' hy (by omega), lN_i]
theorem chr_eq : ∀ b, b < 256 → ((nI b).toUInt32 % 65536).toInt32 = nI b := by decide +kernel
theorem putName_eq {c : Hp} {L : List Nat} {y : Nat} (hy : y < 2 ^ 64) (h : MSt c L) (hl : L.length + 6 ≤ 168) : ∃ c', msg_putName (lN y) c = some c' ∧ MSt c' (nr y 6 ++ L) ∧ npM c' = npM c := by
  have key : ∃ x, iter (msg_putName_l2 (lN y)) FU ((5 : Int32), c) = some x ∧ MSt x.2 (nr y 6 ++ L) ∧ npM x.2 = npM c := by
    refine iterN (P := fun w st => ∃ q c', st = (if q = 6 then -1 else nI (5 - q), c') ∧ q + w = 6 ∧ MSt c' (nr y q ++ L) ∧ npM c' = npM c) ?_ FU 6 _ ⟨0, c, rfl, by omega, h, rfl⟩ (by decide)
    rintro w st ⟨q, c', rfl, h1, h2, h3⟩
    rw [msg_putName_l2]
    by_cases g : q = 6
    · left
      subst g
      rw [if_pos (by decide)]
      exact ⟨_, rfl, h2, h3⟩
    · right
      have hq : (if q = 6 then (-1 : Int32) else nI (5 - q)) = nI (5 - q) := if_neg g
      have hn : nI (5 - q) + (-1 : Int32) = (if q + 1 = 6 then (-1 : Int32) else nI (5 - (q + 1))) := by
        rcases (show q = 0 ∨ q = 1 ∨ q = 2 ∨ q = 3 ∨ q = 4 ∨ q = 5 by omega) with rfl | rfl | rfl | rfl | rfl | rfl <;> decide
      have hb := bw_lt y q
      have hlen := nr_len y q
      rw [hq, if_neg (nI_pos (by omega)), signOf_eq hy (by omega), Option.bind_some, show 5 - (5 - q) = q by omega, hn]
      by_cases z : bw y q = 0
      · rw [z, if_pos (show nI 0 = 0 from rfl)]
        refine ⟨_, w - 1, by omega, rfl, q + 1, c', rfl, by omega, ?_, h3⟩
        rw [nr, if_pos z]; exact h2
      · obtain ⟨c2, e1, e2, e3⟩ := putBefore_eq (b := bw y q) h2 (by rw [List.length_append]; omega) (by omega)
        rw [if_neg (nI_ne0 (by omega) (by omega)), chr_eq _ hb, e1]
        refine ⟨_, w - 1, by omega, rfl, q + 1, c2, rfl, by omega, ?_, by rw [e3, h3]⟩
        rw [nr, if_neg z]; exact e2
  obtain ⟨x, e, h1, h2⟩ := key
  exact ⟨x.2, by rw [msg_putName, e]; rfl, h1, h2⟩
theorem npW_L {m m' : Hp} (h : npW m' = npW m) (a : Ad) (s : Nat) : gL m' a s = gL m a s := by
  have e : gL (npW m') a s = gL (npW m) a s := by rw [h]
  exact e
theorem wName_eq {m : Hp} {L : List Nat} {i y : Nat} {v : Int32} (hi : i < 24) (hy : gL m (23, 0) i = lN y) (h : WSt m L) (hl : L.length + 6 ≤ 200) : ∃ x, iter (m_writeWay_l60 v (nI i)) FU ((5 : Int32), m) = some x ∧ WSt x.2 (L ++ nr y 6) ∧ npW x.2 = npW m := by
  refine iterN (P := fun w st => ∃ q m' X, st = (if q = 6 then -1 else nI (5 - q), m') ∧ q + w = 6 ∧ X ++ nr y (6 - q) = nr y 6 ∧ WSt m' (L ++ X) ∧ npW m' = npW m) ?_ FU 6 _ ⟨0, m, [], rfl, by omega, rfl, by rw [List.append_nil]; exact h, rfl⟩ (by decide)
  rintro w st ⟨q, m', X, rfl, h1, h2, h3, h4⟩
  rw [m_writeWay_l60]
  by_cases g : q = 6
  · left
    subst g
    rw [if_pos (by decide)]
    have : X = nr y 6 := by rw [← h2]; show X = X ++ []; rw [List.append_nil]
    exact ⟨_, rfl, by rw [← this]; exact h3, h4⟩
  · right
    have hq : (if q = 6 then (-1 : Int32) else nI (5 - q)) = nI (5 - q) := if_neg g
    have hn : nI (5 - q) + (-1 : Int32) = (if q + 1 = 6 then (-1 : Int32) else nI (5 - (q + 1))) := by
      rcases (show q = 0 ∨ q = 1 ∨ q = 2 ∨ q = 3 ∨ q = 4 ∨ q = 5 by omega) with rfl | rfl | rfl | rfl | rfl | rfl <;> decide
    have hb := bw_lt y (5 - q)
    have hX : X.length + (nr y (6 - q)).length ≤ 6 := by
      rw [← List.length_append, h2]; exact nr_len y 6
    have hs : nr y (6 - q) = (if bw y (5 - q) = 0 then [] else [bw y (5 - q)]) ++ nr y (6 - (q + 1)) := by
      rw [show 6 - q = (5 - q) + 1 by omega, nr, show 6 - (q + 1) = 5 - q by omega]
    rw [hq, if_neg (nI_pos (by omega)), gB hi (by decide), gB hi (by decide), clI (by omega), npW_L h4, hy, byM' (by omega), hn]
    by_cases z : bw y (5 - q) = 0
    · rw [z, if_pos (show lN 0 = 0 from rfl)]
      refine ⟨_, w - 1, by omega, rfl, q + 1, m', X, rfl, by omega, ?_, h3, h4⟩
      rw [hs, if_pos z] at h2
      exact h2
    · have c2 : ¬ lN (bw y (5 - q)) = (0 : Int64) := fun p => z ((lN_inj (b := 0) (by omega) (by decide)).mp p)
      rw [hs, if_neg z] at hX
      obtain ⟨m2, e1, e2, e3⟩ := write_eq (b := bw y (5 - q)) h3 (by rw [List.length_append]; rw [List.length_append] at hX; simp at hX; omega) hb
      rw [if_neg c2, lN_i, e1]
      refine ⟨_, w - 1, by omega, rfl, q + 1, m2, X ++ [bw y (5 - q)], rfl, by omega, ?_, ?_, by rw [e3, h4]⟩
      · rw [hs, if_neg z] at h2
        rw [List.append_assoc]; exact h2
      · rw [← List.append_assoc]; exact e2
