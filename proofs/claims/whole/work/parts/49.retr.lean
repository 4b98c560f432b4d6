/-! what is given: the cargo of both sides as a list; RETR -/
def npC (h : Hp) : Hp := (fun a s => if (a = (12, 0) ∧ s = 2) ∨ a = (13, 0) then 0 else h.1 a s, h.2.1, h.2.2.1, h.2.2.2)
theorem npC_2 {h : Hp} {v : Int32} : npC (sI h (12, 0) 2 v) = npC h := by
  unfold npC sI
  simp only [Prod.mk.injEq, and_true]
  funext a s'
  by_cases q : (a = (12, 0) ∧ s' = 2) ∨ a = (13, 0)
  · rw [if_pos q, if_pos q]
  · rw [if_neg q, if_neg q, if_neg (fun z => q (Or.inl z))]
theorem npC_13 {h : Hp} {s : Nat} {v : Int32} : npC (sI h (13, 0) s v) = npC h := by
  unfold npC sI
  simp only [Prod.mk.injEq, and_true]
  funext a s'
  by_cases q : (a = (12, 0) ∧ s' = 2) ∨ a = (13, 0)
  · rw [if_pos q, if_pos q]
  · rw [if_neg q, if_neg q, if_neg (fun z => q (Or.inr z.1))]
def npL (h : Hp) : Hp := (fun a s => if (a = (20, 0) ∧ s = 30) ∨ a = (31, 0) then 0 else h.1 a s, h.2.1, h.2.2.1, h.2.2.2)
theorem npL_30 {h : Hp} {v : Int32} : npL (sI h (20, 0) 30 v) = npL h := by
  unfold npL sI
  simp only [Prod.mk.injEq, and_true]
  funext a s'
  by_cases q : (a = (20, 0) ∧ s' = 30) ∨ a = (31, 0)
  · rw [if_pos q, if_pos q]
  · rw [if_neg q, if_neg q, if_neg (fun z => q (Or.inl z))]
theorem npL_31 {h : Hp} {s : Nat} {v : Int32} : npL (sI h (31, 0) s v) = npL h := by
  unfold npL sI
  simp only [Prod.mk.injEq, and_true]
  funext a s'
  by_cases q : (a = (20, 0) ∧ s' = 30) ∨ a = (31, 0)
  · rw [if_pos q, if_pos q]
  · rw [if_neg q, if_neg q, if_neg (fun z => q (Or.inr z.1))]
theorem npC_hi {c c' : Hp} (e : npC c' = npC c) : hiP c' = hiP c := by
  have k : ∀ h, hiP (npC h) = hiP h := fun h => by
    unfold hiP npC
    simp only [Prod.mk.injEq, and_true]
    funext a s
    by_cases q : a.1 < 20
    · rw [if_pos q, if_pos q]
    · rw [if_neg q, if_neg q, if_neg]
      rintro (⟨rfl, -⟩ | rfl)
      · exact q (by decide)
      · exact q (by decide)
  rw [← k c', ← k c, e]
theorem npL_lo {m m' : Hp} (e : npL m' = npL m) : loP m' = loP m := by
  have k : ∀ h, loP (npL h) = loP h := fun h => by
    unfold loP npL
    simp only [Prod.mk.injEq, and_true]
    funext a s
    by_cases q : a.1 < 20
    · rw [if_pos q, if_pos q, if_neg]
      rintro (⟨rfl, -⟩ | rfl)
      · exact absurd q (by decide)
      · exact absurd q (by decide)
    · rw [if_neg q, if_neg q]
  rw [← k m', ← k m, e]
theorem npC_I {c c' : Hp} (h : npC c' = npC c) {a : Ad} {s : Nat} (hne : ¬ ((a = (12, 0) ∧ s = 2) ∨ a = (13, 0))) : gI c' a s = gI c a s := by
  have e : gI (npC c') a s = gI (npC c) a s := by rw [h]
  have k : ∀ h, gI (npC h) a s = gI h a s := fun h => if_neg hne
  rw [k, k] at e
  exact e
theorem npL_I {c c' : Hp} (h : npL c' = npL c) {a : Ad} {s : Nat} (hne : ¬ ((a = (20, 0) ∧ s = 30) ∨ a = (31, 0))) : gI c' a s = gI c a s := by
  have e : gI (npL c') a s = gI (npL c) a s := by rw [h]
  have k : ∀ h, gI (npL h) a s = gI h a s := fun h => if_neg hne
  rw [k, k] at e
  exact e
theorem npC_R {c c' : Hp} (h : npC c' = npC c) (a : Ad) (s : Nat) : gR c' a s = gR c a s := by
  have e : gR (npC c') a s = gR (npC c) a s := by rw [h]
  exact e
theorem npC_L {c c' : Hp} (h : npC c' = npC c) (a : Ad) (s : Nat) : gL c' a s = gL c a s := by
  have e : gL (npC c') a s = gL (npC c) a s := by rw [h]
  exact e
theorem npL_L {c c' : Hp} (h : npL c' = npL c) (a : Ad) (s : Nat) : gL c' a s = gL c a s := by
  have e : gL (npL c') a s = gL (npL c) a s := by rw [h]
  exact e
def RelX (c m : Hp) : Prop := rSt c m ∧ rWay c m ∧ rNs c m ∧ rD m ∧ rAcc c m ∧ rLog c m ∧ rMem c m
theorem X_C {c c' m : Hp} (h : RelX c m) (e : npC c' = npC c) : RelX c' m := by
  have h1 : RelX (npC c) m := h
  rw [← e] at h1
  exact h1
theorem X_L {c m m' : Hp} (h : RelX c m) (e : npL m' = npL m) : RelX c m' := by
  have h1 : RelX c (npL m) := h
  rw [← e] at h1
  exact h1
def CSt (c : Hp) (L : List Nat) : Prop := L.length ≤ 192 ∧ gI c (12, 0) 2 = nI L.length ∧ ∀ j, j < L.length → gI c (13, 0) j = nI (L.getD j 0)
def LSt (m : Hp) (L : List Nat) : Prop := L.length ≤ 200 ∧ gI m (20, 0) 30 = nI L.length ∧ ∀ j, j < L.length → gI m (31, 0) j = nI (L.getD j 0)
theorem getD_app {L : List Nat} {b j : Nat} (hj : j < L.length) : (L ++ [b]).getD j 0 = L.getD j 0 := by
  simp [List.getD, List.getElem?_append, hj]
theorem getD_end {L : List Nat} {b : Nat} : (L ++ [b]).getD L.length 0 = b := by
  simp [List.getD]
theorem cadd_eq {c : Hp} {L : List Nat} {b : Nat} (h : CSt c L) (hl : L.length < 192) : ∃ c', cargo_add (nI b) c = some c' ∧ CSt c' (L ++ [b]) ∧ npC c' = npC c := by
  obtain ⟨h1, h2, h3⟩ := h
  have g1 : ∀ v, gI (sI c (13, 0) L.length v) (12, 0) 2 = gI c (12, 0) 2 := fun _ => rfl
  unfold cargo_add
  rw [h2, if_neg (by rw [show (192 : Int32) = nI 192 from rfl, nle (by omega) (by decide)]; omega), gB hl (by decide), clI (by omega), g1, h2, nI_1, Option.bind_some]
  refine ⟨_, rfl, ⟨by rw [List.length_append, List.length_singleton]; omega, ?_, fun j hj => ?_⟩, ?_⟩
  · rw [List.length_append, List.length_singleton]; rfl
  · show (if (13, 0) = ((13, 0) : Ad) ∧ j = L.length then nI b else gI c (13, 0) j) = _
    rw [List.length_append, List.length_singleton] at hj
    by_cases e : j = L.length
    · rw [if_pos ⟨rfl, e⟩, e, getD_end]
    · rw [if_neg (fun z => e z.2), h3 j (by omega), getD_app (by omega)]
  · rw [npC_2, npC_13]
theorem mput_eq {m : Hp} {L : List Nat} {b : Nat} (h : LSt m L) (hl : L.length < 200) : ∃ m', m_put (nI b) m = some m' ∧ LSt m' (L ++ [b]) ∧ npL m' = npL m := by
  obtain ⟨h1, h2, h3⟩ := h
  have g1 : ∀ v, gI (sI m (31, 0) L.length v) (20, 0) 30 = gI m (20, 0) 30 := fun _ => rfl
  unfold m_put
  rw [h2, gB hl (by decide), clI (by omega), g1, h2, nI_1]
  refine ⟨_, rfl, ⟨by rw [List.length_append, List.length_singleton]; omega, ?_, fun j hj => ?_⟩, ?_⟩
  · rw [List.length_append, List.length_singleton]; rfl
  · show (if (31, 0) = ((31, 0) : Ad) ∧ j = L.length then nI b else gI m (31, 0) j) = _
    rw [List.length_append, List.length_singleton] at hj
    by_cases e : j = L.length
    · rw [if_pos ⟨rfl, e⟩, e, getD_end]
    · rw [if_neg (fun z => e z.2), h3 j (by omega), getD_app (by omega)]
  · rw [npL_30, npL_31]
/-- the relation while something is given -/
theorem give_Y {c m c' m' : Hp} {L : List Nat} (h : RelX c m) (h1 : gI c (12, 0) 1 = 1) (h3 : gI c (12, 0) 3 = 0) (m28 : gI m (20, 0) 28 = 1) (m12 : gI m (20, 0) 12 = 1) (m29 : gI m (20, 0) 29 = 0) (ec : npC c' = npC c) (em : npL m' = npL m) (hc : CSt c' L) (hm : LSt m' L) (hL : ∀ x, x ∈ L → x < 256) : RelY c' m' := by
  obtain ⟨a1, a2, a3, a4, a5, a6, a7⟩ := X_L (X_C h ec) em
  have e1 : gI c' (12, 0) 1 = 1 := by rw [npC_I ec (by decide), h1]
  have e3 : gI c' (12, 0) 3 = 0 := by rw [npC_I ec (by decide), h3]
  have e28 : gI m' (20, 0) 28 = 1 := by rw [npL_I em (by decide), m28]
  have e12 : gI m' (20, 0) 12 = 1 := by rw [npL_I em (by decide), m12]
  have e29 : gI m' (20, 0) 29 = 0 := by rw [npL_I em (by decide), m29]
  refine ⟨a1, a2, a3, a4, a5, a6, a7, by rw [e1, e28], Or.inr (Or.inl ⟨e28, e12, L.length, 0, hc.1, by omega, hc.2.1, e3, hm.2.1, e29, fun j hj => ⟨?_, ?_⟩⟩)⟩
  · rw [hc.2.2 j hj, hm.2.2 j hj]
  · rw [hm.2.2 j hj]
    exact ⟨_, hL _ (getD_mem hj), rfl⟩
theorem file_load {c m : Hp} {i z rr : Nat} (hi : i < 24) (z1 : z ≤ 32) (z2 : gI c (5, i) 1 = nI z) (z3 : gI m (24, 0) i = nI z) (z4 : ∀ j, j < z → gI c (6, i) j = gI m (25, 0) (32 * i + j) ∧ isB (gI m (25, 0) (32 * i + j))) (hr : rr ≤ z) (h0 : gI c (12, 0) 2 = 0) (m30 : gI m (20, 0) 30 = 0) : ∃ c' m' L, cargo_giveFile (some i) (nI rr) (if gI m (20, 0) 18 = 0 then (1 : Int32) else 0) c = some c' ∧ m_loadFile (nI i) (sI m (20, 0) 24 (nI rr)) = some m' ∧ npC c' = npC (sI c (12, 0) 1 (1 : Int32)) ∧ npL m' = npL (sI m (20, 0) 24 (nI rr)) ∧ CSt c' L ∧ LSt m' L ∧ ∀ x, x ∈ L → x < 256 := by
  have key : ∃ x y, iter (cargo_giveFile_l8 (some i) (if gI m (20, 0) 18 = 0 then (1 : Int32) else 0)) FU (nI rr, sI c (12, 0) 1 (1 : Int32)) = some x ∧ iter (m_loadFile_l5 (nI i)) FU (nI rr, sI m (20, 0) 24 (nI rr)) = some y ∧ ∃ L, npC x.2 = npC (sI c (12, 0) 1 (1 : Int32)) ∧ npL y.2 = npL (sI m (20, 0) 24 (nI rr)) ∧ CSt x.2 L ∧ LSt y.2 L ∧ ∀ x, x ∈ L → x < 256 := by
    refine iterR (P := fun k s t => ∃ j c' m' L, j + k = z ∧ rr ≤ j ∧ s = (nI j, c') ∧ t = (nI j, m') ∧ npC c' = npC (sI c (12, 0) 1 (1 : Int32)) ∧ npL m' = npL (sI m (20, 0) 24 (nI rr)) ∧ CSt c' L ∧ LSt m' L ∧ (∀ x, x ∈ L → x < 256) ∧ L.length ≤ 2 * j) ?_ FU (z - rr) _ _ ⟨rr, _, _, [], by omega, by omega, rfl, rfl, rfl, rfl, ⟨by simp, h0, fun j hj => by cases hj⟩, ⟨by simp, m30, fun j hj => by cases hj⟩, fun x hx => (by cases hx), by simp⟩ (by show z - rr < 1000; omega)
    rintro k s t ⟨j, c', m', L, hk, hj, rfl, rfl, ec, em, hc, hm, hL, hl⟩
    have c1 : gI c' (5, i) 1 = nI z := by
      rw [npC_I ec (by rintro (⟨y, -⟩ | y) <;> cases y)]
      exact z2
    have m24 : gI m' (24, 0) i = nI z := by
      rw [npL_I em (by rintro (⟨y, -⟩ | y) <;> cases y)]
      exact z3
    have m18 : gI m' (20, 0) 18 = gI m (20, 0) 18 := by
      rw [npL_I em (by decide)]
      rfl
    have ez : (nI z ≤ nI j) = (z ≤ j) := nle (by omega) (by omega)
    rw [cargo_giveFile_l8, m_loadFile_l5, if_neg (nI_pos (by omega)), nd24 hi, Option.bind_some, c1, gB hi (by decide), clI (show i < 2 ^ 31 by omega), m24]
    simp only [ez]
    by_cases g : z ≤ j
    · left
      rw [if_pos g, if_pos g]
      exact ⟨_, _, rfl, rfl, L, ec, em, hc, hm, hL⟩
    · right
      obtain ⟨w1, b, w2, w3⟩ := z4 j (by omega)
      have e32 : (32 : Int32) * nI i + nI j = nI (32 * i + j) := by rw [show (32 : Int32) = nI 32 from rfl, nI_mul, nI_add]
      have c6 : gI c' (6, i) j = nI b := by
        rw [npC_I ec (by rintro (⟨y, -⟩ | y) <;> cases y), ← w3, ← w1]
        rfl
      have c25 : gI m' (25, 0) (32 * i + j) = nI b := by
        rw [npL_I em (by rintro (⟨y, -⟩ | y) <;> cases y), ← w3]
        rfl
      have gj : ∀ (o : Option Hp), guardB (nI j) 32 o = o := fun o => gB (by omega) (by decide)
      have gj2 : ∀ (o : Option ((Int32 × Hp) ⊕ (Int32 × Hp))), guardB (nI j) 32 o = o := fun o => gB (by omega) (by decide)
      have gq : ∀ (o : Option Hp), guardB (nI (32 * i + j)) 768 o = o := fun o => gB (by omega) (by decide)
      have gq2 : ∀ (o : Option ((Int32 × Hp) ⊕ (Int32 × Hp))), guardB (nI (32 * i + j)) 768 o = o := fun o => gB (by omega) (by decide)
      have e10 : (nI b = (10 : Int32)) = (b = 10) := neq (n := b) (k := 10) (by decide) (by omega)
      rw [if_neg g, if_neg g, if_neg (by rw [show (32 : Int32) = nI 32 from rfl, nle (by omega) (by decide)]; omega), e32, clI (show j < 2 ^ 31 by omega), clI (show 32 * i + j < 2 ^ 31 by omega), c6, c25, m18]
      simp only [e10, gj, gq, gj2, gq2]
      have step : ∃ c2 m2 L2, (if (if gI m (20, 0) 18 = 0 then (1 : Int32) else 0) = 0 then some c' else if b = 10 then (cargo_add (13 : Int32) c').bind fun y9 => some y9 else some c') = some c2 ∧ (if gI m (20, 0) 18 = 0 then (if b = 10 then (m_put (13 : Int32) m').bind fun y7 => some y7 else some m') else some m') = some m2 ∧ npC c2 = npC c' ∧ npL m2 = npL m' ∧ CSt c2 L2 ∧ LSt m2 L2 ∧ (∀ x, x ∈ L2 → x < 256) ∧ L2.length ≤ L.length + 1 := by
        by_cases q : gI m (20, 0) 18 = 0
        · rw [if_pos q, if_pos q, if_neg one_ne]
          by_cases q2 : b = 10
          · rw [if_pos q2, if_pos q2]
            obtain ⟨c2, x1, x2, x3⟩ := cadd_eq (b := 13) hc (by omega)
            obtain ⟨m2, y1, y2, y3⟩ := mput_eq (b := 13) hm (by omega)
            refine ⟨c2, m2, L ++ [13], ?_, ?_, x3, y3, x2, y2, fun x hx => ?_, by rw [List.length_append, List.length_singleton]; omega⟩
            · rw [show (13 : Int32) = nI 13 from rfl, x1]; rfl
            · rw [show (13 : Int32) = nI 13 from rfl, y1]; rfl
            · rw [List.mem_append, List.mem_singleton] at hx
              rcases hx with hx | hx
              · exact hL x hx
              · omega
          · rw [if_neg q2, if_neg q2]
            exact ⟨c', m', L, rfl, rfl, rfl, rfl, hc, hm, hL, by omega⟩
        · rw [if_neg q, if_neg q, if_pos rfl]
          exact ⟨c', m', L, rfl, rfl, rfl, rfl, hc, hm, hL, by omega⟩
      obtain ⟨c2, m2, L2, s1, s2, s3, s4, s5, s6, s7, s8⟩ := step
      have d6 : gI c2 (6, i) j = nI b := by rw [npC_I s3 (by rintro (⟨y, -⟩ | y) <;> cases y), c6]
      have d25 : gI m2 (25, 0) (32 * i + j) = nI b := by rw [npL_I s4 (by rintro (⟨y, -⟩ | y) <;> cases y), c25]
      obtain ⟨c3, x1, x2, x3⟩ := cadd_eq (b := b) s5 (by omega)
      obtain ⟨m3, y1, y2, y3⟩ := mput_eq (b := b) s6 (by omega)
      rw [s1, s2, Option.bind_some, Option.bind_some, d6, d25, x1, y1, Option.bind_some, Option.bind_some, nI_1]
      refine ⟨_, _, k - 1, by omega, rfl, rfl, j + 1, c3, m3, L2 ++ [b], by omega, by omega, rfl, rfl, by rw [x3, s3, ec], by rw [y3, s4, em], x2, y2, fun x hx => ?_, by rw [List.length_append, List.length_singleton]; omega⟩
      rw [List.mem_append, List.mem_singleton] at hx
      rcases hx with hx | hx
      · exact s7 x hx
      · omega
  obtain ⟨x, y, e1, e2, L, k1, k2, k3, k4, k5⟩ := key
  refine ⟨x.2, y.2, L, ?_, ?_, k1, k2, k3, k4, k5⟩
  · rw [cargo_giveFile, e1]; rfl
  · rw [m_loadFile, show gI (sI m (20, 0) 24 (nI rr)) (20, 0) 24 = nI rr from rfl, e2]; rfl
