/-! the way to a node, spelled on both sides -/
theorem signOf_eq {y k : Nat} (hy : y < 2 ^ 64) (hk : k < 6) (h : Hp) : name_signOf (lN y) (nI k) h = some (nI (bw y (5 - k))) := by
  rw [name_signOf, s5 k hk, byC' hy (by omega), lN_i]
theorem chr_eq : ∀ b, b < 256 → ((nI b).toUInt32 % 65536).toInt32 = nI b := by decide +kernel
theorem putName_eq {c : Hp} {L : List Nat} {y : Nat} (hy : y < 2 ^ 64) (h : MSt c L) (hl : L.length + 6 ≤ 168) : ∃ c', msg_putName (lN y) c = some c' ∧ MSt c' (nr y 6 ++ L) ∧ npM c' = npM c := by
  have key : ∃ x, iter (msg_putName_l2 (lN y)) FU ((5 : Int32), c) = some x ∧ MSt x.2 (nr y 6 ++ L) ∧ npM x.2 = npM c := by
    refine iterN (P := fun w st => ∃ q c', st = (if q = 6 then -1 else nI (5 - q), c') ∧ q + w = 6 ∧ MSt c' (nr y q ++ L) ∧ npM c' = npM c) ?_ FU 6 _ ⟨0, c, rfl, by omega, h, rfl⟩ (by decide)
    rintro w st ⟨q, c', rfl, h1, h2, h3⟩
    rw [msg_putName_l2]
    by_cases g : q = 6
    · left
      subst g
      rw [if_pos (by decide)]
      exact ⟨_, rfl, h2, h3⟩
    · right
      have hq : (if q = 6 then (-1 : Int32) else nI (5 - q)) = nI (5 - q) := if_neg g
      have hn : nI (5 - q) + (-1 : Int32) = (if q + 1 = 6 then (-1 : Int32) else nI (5 - (q + 1))) := by
        rcases (show q = 0 ∨ q = 1 ∨ q = 2 ∨ q = 3 ∨ q = 4 ∨ q = 5 by omega) with rfl | rfl | rfl | rfl | rfl | rfl <;> decide
      have hb := bw_lt y q
      have hlen := nr_len y q
      rw [hq, if_neg (nI_pos (by omega)), signOf_eq hy (by omega), Option.bind_some, show 5 - (5 - q) = q by omega, hn]
      by_cases z : bw y q = 0
      · rw [z, if_pos (show nI 0 = 0 from rfl)]
        refine ⟨_, w - 1, by omega, rfl, q + 1, c', rfl, by omega, ?_, h3⟩
        rw [nr, if_pos z]; exact h2
      · obtain ⟨c2, e1, e2, e3⟩ := putBefore_eq (b := bw y q) h2 (by rw [List.length_append]; omega) (by omega)
        rw [if_neg (nI_ne0 (by omega) (by omega)), chr_eq _ hb, e1]
        refine ⟨_, w - 1, by omega, rfl, q + 1, c2, rfl, by omega, ?_, by rw [e3, h3]⟩
        rw [nr, if_neg z]; exact e2
  obtain ⟨x, e, h1, h2⟩ := key
  exact ⟨x.2, by rw [msg_putName, e]; rfl, h1, h2⟩
theorem npW_L {m m' : Hp} (h : npW m' = npW m) (a : Ad) (s : Nat) : gL m' a s = gL m a s := by
  have e : gL (npW m') a s = gL (npW m) a s := by rw [h]
  exact e
theorem wName_eq {m : Hp} {L : List Nat} {i y : Nat} {v : Int32} (hi : i < 24) (hy : gL m (23, 0) i = lN y) (h : WSt m L) (hl : L.length + 6 ≤ 200) : ∃ x, iter (m_writeWay_l60 v (nI i)) FU ((5 : Int32), m) = some x ∧ WSt x.2 (L ++ nr y 6) ∧ npW x.2 = npW m := by
  refine iterN (P := fun w st => ∃ q m' X, st = (if q = 6 then -1 else nI (5 - q), m') ∧ q + w = 6 ∧ X ++ nr y (6 - q) = nr y 6 ∧ WSt m' (L ++ X) ∧ npW m' = npW m) ?_ FU 6 _ ⟨0, m, [], rfl, by omega, rfl, by rw [List.append_nil]; exact h, rfl⟩ (by decide)
  rintro w st ⟨q, m', X, rfl, h1, h2, h3, h4⟩
  rw [m_writeWay_l60]
  by_cases g : q = 6
  · left
    subst g
    rw [if_pos (by decide)]
    have : X = nr y 6 := by rw [← h2]; show X = X ++ []; rw [List.append_nil]
    exact ⟨_, rfl, by rw [← this]; exact h3, h4⟩
  · right
    have hq : (if q = 6 then (-1 : Int32) else nI (5 - q)) = nI (5 - q) := if_neg g
    have hn : nI (5 - q) + (-1 : Int32) = (if q + 1 = 6 then (-1 : Int32) else nI (5 - (q + 1))) := by
      rcases (show q = 0 ∨ q = 1 ∨ q = 2 ∨ q = 3 ∨ q = 4 ∨ q = 5 by omega) with rfl | rfl | rfl | rfl | rfl | rfl <;> decide
    have hb := bw_lt y (5 - q)
    have hX : X.length + (nr y (6 - q)).length ≤ 6 := by
      rw [← List.length_append, h2]; exact nr_len y 6
    have hs : nr y (6 - q) = (if bw y (5 - q) = 0 then [] else [bw y (5 - q)]) ++ nr y (6 - (q + 1)) := by
      rw [show 6 - q = (5 - q) + 1 by omega, nr, show 6 - (q + 1) = 5 - q by omega]
    rw [hq, if_neg (nI_pos (by omega)), gB hi (by decide), gB hi (by decide), clI (by omega), npW_L h4, hy, byM' (by omega), hn]
    by_cases z : bw y (5 - q) = 0
    · rw [z, if_pos (show lN 0 = 0 from rfl)]
      refine ⟨_, w - 1, by omega, rfl, q + 1, m', X, rfl, by omega, ?_, h3, h4⟩
      rw [hs, if_pos z] at h2
      exact h2
    · have c2 : ¬ lN (bw y (5 - q)) = (0 : Int64) := fun p => z ((lN_inj (b := 0) (by omega) (by decide)).mp p)
      rw [hs, if_neg z] at hX
      obtain ⟨m2, e1, e2, e3⟩ := write_eq (b := bw y (5 - q)) h3 (by rw [List.length_append]; rw [List.length_append] at hX; simp at hX; omega) hb
      rw [if_neg c2, lN_i, e1]
      refine ⟨_, w - 1, by omega, rfl, q + 1, m2, X ++ [bw y (5 - q)], rfl, by omega, ?_, ?_, by rw [e3, h4]⟩
      · rw [hs, if_neg z] at h2
        rw [List.append_assoc]; exact h2
      · rw [← List.append_assoc]; exact e2
/-- the text of the way that comes down to i in d steps -/
def wy (m : Hp) : Nat → Nat → List Nat
  | 0, _ => []
  | d + 1, i => wy m d (par m i) ++ (47 :: nr (nn m i) 6)
theorem wy_len (m : Hp) : ∀ d i, (wy m d i).length ≤ 7 * d
  | 0, i => Nat.le_refl _
  | d + 1, i => by
    have := wy_len m d (par m i)
    have := nr_len (nn m i) 6
    rw [wy, List.length_append, List.length_cons]
    omega
theorem wy_lt (m : Hp) : ∀ d i x, x ∈ wy m d i → x < 256
  | 0, i, x, h => by cases h
  | d + 1, i, x, h => by
    rw [wy, List.mem_append, List.mem_cons] at h
    rcases h with h | h | h
    · exact wy_lt m d _ x h
    · rw [h]; decide
    · exact nr_lt _ _ x h
theorem up_add (f : Nat → Nat) : ∀ a b i, up f (a + b) i = up f b (up f a i)
  | 0, b, i => by rw [Nat.zero_add]; rfl
  | a + 1, b, i => by
    rw [show a + 1 + b = (a + b) + 1 by omega, up, up_add f a b (f i)]; rfl
theorem up_succ (f : Nat → Nat) (a i : Nat) : up f (a + 1) i = f (up f a i) := by rw [up_add]; rfl
theorem up_fix {f : Nat → Nat} {i : Nat} (h : f i = i) : ∀ a, up f a i = i
  | 0 => rfl
  | a + 1 => by rw [up, h]; exact up_fix h a
/-- the steps from t up to r: none of the nodes before is a root -/
def way (c m : Hp) (t r D : Nat) : Prop := up (par m) D t = r ∧ ∀ q, q ≤ D → up (par m) q t < 24 ∧ gI m (21, 0) (up (par m) q t) ≠ 0 ∧ (q < D → par m (up (par m) q t) ≠ up (par m) q t)
theorem way_of {c m : Hp} {t r : Nat} (hn : rNs c m) (ht : t < 24) (hu : gI m (21, 0) t ≠ 0) (hr : par m r = r) (h : under m t r) : ∃ D, way c m t r D := by
  obtain ⟨n, hn1⟩ := h
  have ok : ∀ q, up (par m) q t < 24 ∧ gI m (21, 0) (up (par m) q t) ≠ 0 := by
    intro q
    induction q with
    | zero => exact ⟨ht, hu⟩
    | succ q ih =>
      obtain ⟨p1, p2, p3, -⟩ := rP_par (rN_P (hn _ ih.1) ih.2) ih.1
      rw [up_succ]
      exact ⟨p1, by rw [p3]; decide⟩
  obtain ⟨D, h1, h2⟩ := pk_least (fun n => up (par m) n t = r) ⟨n, hn1⟩
  refine ⟨D, h1, fun q hq => ⟨(ok q).1, (ok q).2, fun hl he => ?_⟩⟩
  have e : up (par m) D t = up (par m) q t := by
    rw [show D = q + (D - q) by omega, up_add]
    exact up_fix he _
  exact h2 q hl (by rw [← e]; exact h1)
theorem way_D {c m : Hp} {t r D : Nat} (hd : rD m) (h : way c m t r D) : D < 24 ∧ ∀ a b, a < b → b ≤ D → up (par m) a t ≠ up (par m) b t := by
  obtain ⟨d, hd⟩ := hd
  have st : ∀ q, q < D → d (up (par m) (q + 1) t) < d (up (par m) q t) := fun q hq => by
    obtain ⟨h1, h2, h3⟩ := h.2 q (by omega)
    rw [up_succ]
    exact (hd _ h1 h2).2 (h3 hq)
  have mono : ∀ a k, a + k ≤ D → d (up (par m) (a + k) t) + k ≤ d (up (par m) a t) := by
    intro a k
    induction k with
    | zero => intro _; exact Nat.le_refl _
    | succ k ih =>
      intro hk
      have := st (a + k) (by omega)
      have := ih (by omega)
      rw [show a + (k + 1) = a + k + 1 by omega]
      omega
  obtain ⟨h1, h2, -⟩ := h.2 0 (by omega)
  have h3 := (hd _ h1 h2).1
  refine ⟨?_, fun a b hab hb he => ?_⟩
  · have := mono 0 D (by omega)
    omega
  · have := mono a (b - a) (by omega)
    rw [show a + (b - a) = b by omega, ← he] at this
    omega
