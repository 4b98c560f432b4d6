/-! NLST: the names of a directory, in their order -/
def mx (x : Nat) : Nat := if x = 0 then 9223372036854775807 else x
theorem mx_lt {x : Nat} (h : x < 2 ^ 48) : mx x < 2 ^ 63 := by
  unfold mx
  by_cases z : x = 0
  · rw [if_pos z]; decide
  · rw [if_neg z]; omega
theorem next_m {c m : Hp} {i V : Nat} (hn : rNs c m) (hi : i < 24) (hV : V < 2 ^ 48) : ∃ r x, iter (m_loadNames_l18 (nI i) (lN V) m) FU ((9223372036854775807 : Int64), (0 : Int32)) = some r ∧ r.1 = lN (mx x) ∧ x < 2 ^ 48 ∧ isNext m i V 24 x := by
  have key : ∃ r, iter (m_loadNames_l18 (nI i) (lN V) m) FU ((9223372036854775807 : Int64), (0 : Int32)) = some r ∧ ∃ x, r.1 = lN (mx x) ∧ x < 2 ^ 48 ∧ isNext m i V 24 x := by
    refine iterN (P := fun w st => ∃ k x, st = (lN (mx x), nI k) ∧ k + w = 24 ∧ x < 2 ^ 48 ∧ isNext m i V k x) ?_ FU 24 _ ⟨0, 0, rfl, by omega, by decide, Or.inl ⟨rfl, fun j hj => by omega⟩⟩ (by decide)
    rintro w st ⟨k, x, rfl, h1, h2, h3⟩
    have hmx := mx_lt h2
    rw [m_loadNames_l18]
    by_cases g : k = 24
    · left
      subst g
      rw [if_pos (by decide)]
      exact ⟨_, rfl, x, rfl, h2, h3⟩
    · right
      have hk : k < 24 := by omega
      have gb : ∀ {A : Type} (o : Option A), guardB (nI k) 24 o = o := fun o => gB hk (by decide)
      obtain ⟨-, r2, r3⟩ := rN_k (hn k hk)
      rw [if_neg (c24 hk)]
      simp only [gb, clI (show k < 2 ^ 31 by omega), nI_1, r2]
      have ei : (nI k = nI i) = (k = i) := neq (by omega) (by omega)
      by_cases q : inD m i k
      · obtain ⟨a, b, d0⟩ := id q
        obtain ⟨n1, n2, n3⟩ := inD_nm hk hi (hn k hk) q
        obtain ⟨w1, w2, w3⟩ := wf_nn n2
        rw [if_neg a, if_pos b, if_neg (by rw [ei]; exact d0), w1]
        simp only [lle (show nn m k < 2 ^ 63 by omega) (show V < 2 ^ 63 by omega), lle (show mx x < 2 ^ 63 by omega) (show nn m k < 2 ^ 63 by omega)]
        by_cases d : nn m k ≤ V
        · rw [if_pos d, Option.bind_some, if_pos rfl]
          exact ⟨_, w - 1, by omega, rfl, k + 1, x, rfl, by omega, h2, isNext_skip h3 (Or.inr d)⟩
        · rw [if_neg d, Option.bind_some, if_neg one_ne]
          by_cases f : x = 0
          · have : ¬ mx x ≤ nn m k := by
              unfold mx
              rw [if_pos f]; omega
            rw [if_neg this]
            refine ⟨_, w - 1, by omega, rfl, k + 1, nn m k, ?_, by omega, w3, isNext_new h3 q (by omega) (Or.inl f)⟩
            unfold mx
            rw [if_neg (show ¬ nn m k = 0 by omega)]
          · have hx : mx x = x := if_neg f
            rw [hx]
            by_cases l : x ≤ nn m k
            · rw [if_pos l]
              exact ⟨_, w - 1, by omega, rfl, k + 1, x, by rw [hx], by omega, h2, isNext_keep h3 f l⟩
            · rw [if_neg l]
              refine ⟨_, w - 1, by omega, rfl, k + 1, nn m k, ?_, by omega, w3, isNext_new h3 q (by omega) (Or.inr (by omega))⟩
              unfold mx
              rw [if_neg (show ¬ nn m k = 0 by omega)]
      · have ev : ∀ z : Option Int32, (if gI m (21, 0) k = 0 then some (0 : Int32) else if gI m (22, 0) k = nI i then (if nI k = nI i then some (0 : Int32) else z) else some (0 : Int32)) = some (0 : Int32) := fun z => by
          by_cases a : gI m (21, 0) k = 0
          · rw [if_pos a]
          · rw [if_neg a]
            by_cases b : gI m (22, 0) k = nI i
            · rw [if_pos b]
              by_cases d : nI k = nI i
              · rw [if_pos d]
              · exact absurd ⟨a, b, fun z => d (by rw [z])⟩ q
            · rw [if_neg b]
        rw [ev, Option.bind_some, if_pos rfl]
        exact ⟨_, w - 1, by omega, rfl, k + 1, x, rfl, by omega, h2, isNext_skip h3 (Or.inl q)⟩
  obtain ⟨r, e, x, h⟩ := key
  exact ⟨r, x, e, h⟩
def NL (nx : Nat → Nat) : Nat → Nat → List Nat
  | 0, _ => []
  | f + 1, V => if nx V = 0 then [] else nr (nx V) 6 ++ ([13] ++ ([10] ++ NL nx f (nx V)))
theorem NL_lt (nx : Nat → Nat) : ∀ f V x, x ∈ NL nx f V → x < 256
  | 0, V, x, h => by cases h
  | f + 1, V, x, h => by
    rw [NL] at h
    by_cases z : nx V = 0
    · rw [if_pos z] at h; cases h
    · rw [if_neg z] at h
      simp only [List.mem_append, List.mem_singleton] at h
      rcases h with h | h | h | h
      · exact nr_lt _ _ x h
      · omega
      · omega
      · exact NL_lt nx f _ x h
def NXok (m : Hp) (i : Nat) (nx : Nat → Nat) : Prop := ∀ V, V < 2 ^ 48 → nx V < 2 ^ 48 ∧ isNext m i V 24 (nx V)
theorem nx_of {c m : Hp} {i : Nat} (hn : rNs c m) (hi : i < 24) : ∃ nx, NXok m i nx := by
  obtain ⟨nx, h⟩ := Classical.axiomOfChoice (r := fun V x => V < 2 ^ 48 → x < 2 ^ 48 ∧ isNext m i V 24 x) (fun V => by
    by_cases hV : V < 2 ^ 48
    · obtain ⟨x, h1, h2, -⟩ := next_c hn hi hV
      exact ⟨x, fun _ => ⟨h1, h2⟩⟩
    · exact ⟨0, fun z => absurd z hV⟩)
  exact ⟨nx, h⟩
theorem nx_wf {c m : Hp} {i V : Nat} {nx : Nat → Nat} (hn : rNs c m) (hi : i < 24) (hx : NXok m i nx) (hV : V < 2 ^ 48) (h0 : nx V ≠ 0) : ∃ b n, n ≤ 6 ∧ okn b n = true ∧ nx V = nmv b n := by
  rcases (hx V hV).2 with ⟨h1, -⟩ | ⟨j, j1, j2, j3, -, -⟩
  · exact absurd h1 h0
  · obtain ⟨-, n2, -⟩ := inD_nm j1 hi (hn j j1) j2
    obtain ⟨b, n, -, b2, b3, b4⟩ := wf_B n2
    exact ⟨b, n, b2, b3, by rw [← j3, b4]⟩
def cN (m : Hp) (i V : Nat) : Nat := cnt (fun j => decide (gI m (21, 0) j ≠ 0 ∧ gI m (22, 0) j = nI i ∧ j ≠ i ∧ V < nn m j)) 24
theorem cN_step {m : Hp} {i V : Nat} {nx : Nat → Nat} (hx : NXok m i nx) (hV : V < 2 ^ 48) (h0 : nx V ≠ 0) : cN m i (nx V) < cN m i V := by
  rcases (hx V hV).2 with ⟨h1, -⟩ | ⟨j, j1, ⟨d1, d2, d3⟩, j3, j4, -⟩
  · exact absurd h1 h0
  · refine cnt_lt (k := j) (fun q hq hp => ?_) j1 (decide_eq_true ⟨d1, d2, d3, by rw [j3]; exact j4⟩) (decide_eq_false fun z => by
      have := z.2.2.2
      omega)
    obtain ⟨a, b, d, e⟩ := of_decide_eq_true hp
    exact decide_eq_true ⟨a, b, d, by omega⟩
theorem cN_le (m : Hp) (i V : Nat) : cN m i V ≤ 24 := by
  have := cnt_mono (p := fun j => decide (gI m (21, 0) j ≠ 0 ∧ gI m (22, 0) j = nI i ∧ j ≠ i ∧ V < nn m j)) (q := fun _ => true) (n := 24) (fun _ _ _ => rfl)
  rw [cnt_all] at this
  exact this
theorem names_c {c m : Hp} {i : Nat} {nx : Nat → Nat} (hn : rNs c m) (hi : i < 24) (hx : NXok m i nx) (h0 : CSt c []) : ∃ x, iter (cargo_giveNames_l15 (some i)) FU (lN (nx 0), (0 : Int32), c) = some x ∧ CSt x.2.2 (NL nx 24 0) ∧ npC x.2.2 = npC c := by
  refine iterN (P := fun w st => ∃ k V c' L, st = (lN (nx V), nI k, c') ∧ k + w = 24 ∧ V < 2 ^ 48 ∧ CSt c' L ∧ L ++ NL nx w V = NL nx 24 0 ∧ L.length ≤ 8 * k ∧ npC c' = npC c) ?_ FU 24 _ ⟨0, 0, c, [], rfl, by omega, by decide, h0, rfl, by simp, rfl⟩ (by decide)
  rintro w st ⟨k, V, c', L, rfl, h1, h2, h3, h4, h5, h6⟩
  obtain ⟨hx1, hx2⟩ := hx V h2
  have e0 : (lN (nx V) = (0 : Int64)) = (nx V = 0) := propext (lN_inj (b := 0) (by omega) (by decide))
  rw [cargo_giveNames_l15]
  simp only [e0]
  by_cases g : k = 24
  · left
    have hw : w = 0 := by omega
    subst hw
    rw [if_pos (by rw [g]; decide)]
    have : L = NL nx 24 0 := by rw [← h4]; show L = L ++ []; rw [List.append_nil]
    exact ⟨_, rfl, by rw [← this]; exact h3, h6⟩
  · rw [if_neg (c24 (by omega))]
    by_cases z : nx V = 0
    · left
      rw [if_pos z]
      have : L = NL nx 24 0 := by
        rw [← h4, show w = (w - 1) + 1 by omega, NL, if_pos z, List.append_nil]
      exact ⟨_, rfl, by rw [← this]; exact h3, h6⟩
    · right
      obtain ⟨b, n, b1, b2, b3⟩ := nx_wf hn hi hx h2 z
      have hnr := nr_len (nx V) 6
      obtain ⟨x1, x2, x3, x4⟩ := gname_c (o := some i) (v5 := nI k) b1 b2 h3 (by omega)
      rw [← b3] at x2 x3
      obtain ⟨c2, y1, y2, y3⟩ := cadd_eq (b := 13) x3 (by rw [List.length_append]; omega)
      obtain ⟨c3, u1, u2, u3⟩ := cadd_eq (b := 10) y2 (by rw [List.length_append, List.length_append, List.length_singleton]; omega)
      have ec3 : npC c3 = npC c := by rw [u3, y3, x4, h6]
      have hn3 : rNs c3 m := by
        have q : rNs (npC c) m := hn
        rw [← ec3] at q
        exact q
      obtain ⟨x', a1, a2, a3⟩ := next_c hn3 hi hx1
      have : x' = nx (nx V) := isNext_u a2 (hx _ hx1).2
      rw [this] at a3
      rw [if_neg z, x2, Option.bind_some, show (13 : Int32) = nI 13 from rfl, y1, Option.bind_some, show (10 : Int32) = nI 10 from rfl, u1, Option.bind_some, a3, Option.bind_some, nI_1]
      refine ⟨_, w - 1, by omega, rfl, k + 1, nx V, c3, _, rfl, by omega, hx1, u2, ?_, ?_, ec3⟩
      · rw [← h4, show w = (w - 1) + 1 by omega, NL, if_neg z, Nat.add_sub_cancel]
        simp only [List.append_assoc]
      · rw [List.length_append, List.length_append, List.length_append, List.length_singleton, List.length_singleton]
        omega
theorem names_m {c m : Hp} {i : Nat} {nx : Nat → Nat} (hn : rNs c m) (hi : i < 24) (hx : NXok m i nx) (h0 : LSt m []) : ∃ x, iter (m_loadNames_l5 (nI i)) FU ((0 : Int64), (1 : Int32), m) = some x ∧ LSt x.2.2 (NL nx 24 0) ∧ npL x.2.2 = npL m := by
  refine iterN (P := fun w st => (∃ V m' L f, st = (lN V, (1 : Int32), m') ∧ V < 2 ^ 48 ∧ LSt m' L ∧ L ++ NL nx f V = NL nx 24 0 ∧ cN m i V ≤ f ∧ L.length + 8 * f ≤ 192 ∧ w = f + 1 ∧ npL m' = npL m) ∨ (∃ v m', st = (v, (0 : Int32), m') ∧ LSt m' (NL nx 24 0) ∧ npL m' = npL m)) ?_ FU 25 _ (Or.inl ⟨0, m, [], 24, rfl, by decide, h0, rfl, cN_le _ _ _, by simp, rfl, rfl⟩) (by decide)
  rintro w st (⟨V, m', L, f, rfl, h2, h3, h4, h5, h7, h8, h6⟩ | ⟨v, m', rfl, h1, h2⟩)
  · right
    obtain ⟨hx1, hx2⟩ := hx V h2
    have hn2 : rNs c m' := by
      have q : rNs c (npL m) := hn
      rw [← h6] at q
      exact q
    obtain ⟨t, x, t1, t2, t3, t4⟩ := next_m hn2 hi h2
    have t5 : isNext m i V 24 x := by
      have q : isNext (npL m') i V 24 x := t4
      rw [h6] at q
      exact q
    have ex : x = nx V := isNext_u t5 hx2
    subst ex
    have em : ((9223372036854775807 : Int64) ≤ lN (mx (nx V))) = (nx V = 0) := by
      have := lle (a := 9223372036854775807) (b := mx (nx V)) (by decide) (mx_lt hx1)
      rw [show (9223372036854775807 : Int64) = lN 9223372036854775807 from rfl, this]
      unfold mx
      by_cases z : nx V = 0
      · rw [if_pos z]; exact propext (by omega)
      · rw [if_neg z]; exact propext (by omega)
    rw [m_loadNames_l5, if_neg one_ne, t1, Option.bind_some, t2]
    simp only [em]
    by_cases z : nx V = 0
    · rw [if_pos z, Option.bind_some, iter_exit (x := ((5 : Int32), m')) (by rw [m_loadNames_l128, if_neg (by decide), if_pos rfl]), Option.bind_some, if_pos rfl, Option.bind_some]
      refine ⟨_, 0, by omega, rfl, Or.inr ⟨_, m', rfl, ?_, h6⟩⟩
      have : NL nx f V = [] := by
        cases f with
        | zero => rfl
        | succ f => rw [NL, if_pos z]
      rw [this, List.append_nil] at h4
      rw [← h4]; exact h3
    · have hst := cN_step hx h2 z
      have hmx : mx (nx V) = nx V := if_neg z
      have hnr := nr_len (nx V) 6
      obtain ⟨x1, x2, x3, x4⟩ := gname_m (y := nx V) (v1 := nI i) one_ne h3 (by omega)
      obtain ⟨m2, y1, y2, y3⟩ := mput_eq (b := 13) x3 (by rw [List.length_append]; omega)
      obtain ⟨m3, u1, u2, u3⟩ := mput_eq (b := 10) y2 (by rw [List.length_append, List.length_append, List.length_singleton]; omega)
      rw [if_neg z, Option.bind_some, hmx, x2, Option.bind_some, if_neg one_ne, show (13 : Int32) = nI 13 from rfl, y1, Option.bind_some, show (10 : Int32) = nI 10 from rfl, u1, Option.bind_some, Option.bind_some]
      refine ⟨_, w - 1, by omega, rfl, Or.inl ⟨nx V, m3, _, f - 1, rfl, hx1, u2, ?_, by omega, ?_, by omega, by rw [u3, y3, x4, h6]⟩⟩
      · rw [← h4]
        have : NL nx f V = nr (nx V) 6 ++ ([13] ++ ([10] ++ NL nx (f - 1) (nx V))) := by
          rw [show f = (f - 1) + 1 by omega, NL, if_neg z, Nat.add_sub_cancel]
        rw [this]
        simp only [List.append_assoc]
      · rw [List.length_append, List.length_append, List.length_append, List.length_singleton, List.length_singleton]
        omega
  · left
    rw [m_loadNames_l5, if_pos rfl]
    exact ⟨_, rfl, h1, h2⟩
