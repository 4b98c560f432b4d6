/-! the signs of a name -/
theorem nmv_bw {b : Nat → Nat} {n j : Nat} (hn : n ≤ 6) (hb : ∀ i, i < n → b i < 256) (hj : j < 6) : bw (nmv b n) (5 - j) = if j < n then b j else 0 := by
  have b0 := hb 0; have b1 := hb 1; have b2 := hb 2; have b3 := hb 3; have b4 := hb 4; have b5 := hb 5
  rcases (show n = 0 ∨ n = 1 ∨ n = 2 ∨ n = 3 ∨ n = 4 ∨ n = 5 ∨ n = 6 by omega) with rfl | rfl | rfl | rfl | rfl | rfl | rfl <;> rcases (show j = 0 ∨ j = 1 ∨ j = 2 ∨ j = 3 ∨ j = 4 ∨ j = 5 by omega) with rfl | rfl | rfl | rfl | rfl | rfl <;> simp only [nmv, bw, Nat.reduceMul, Nat.reduceSub, Nat.reducePow, Nat.reduceLT, if_true, if_false] <;> omega
theorem sb_byte' : ∀ b, b < 256 → ((nI b).toUInt32 % 65536).toInt32 = nI b := by decide +kernel
/-! the two messages: written backwards, written forwards -/
def nr (y : Nat) : Nat → List Nat
  | 0 => []
  | q + 1 => (if bw y q = 0 then [] else [bw y q]) ++ nr y q
theorem nr_len (y : Nat) : ∀ q, (nr y q).length ≤ q
  | 0 => Nat.le_refl _
  | q + 1 => by
    have := nr_len y q
    rw [nr, List.length_append]
    split <;> simp <;> omega
theorem nr_lt (y : Nat) : ∀ q x, x ∈ nr y q → x < 256
  | 0, x, h => by cases h
  | q + 1, x, h => by
    rw [nr, List.mem_append] at h
    rcases h with h | h
    · by_cases z : bw y q = 0
      · rw [if_pos z] at h; cases h
      · rw [if_neg z, List.mem_singleton] at h
        rw [h]; exact bw_lt _ _
    · exact nr_lt y q x h
def npM (h : Hp) : Hp := (fun a s => if a.1 = 10 ∨ a.1 = 11 then 0 else h.1 a s, h.2.1, h.2.2.1, h.2.2.2)
theorem npM_sI {h : Hp} {t i s : Nat} {v : Int32} (ht : t = 10 ∨ t = 11) : npM (sI h (t, i) s v) = npM h := by
  unfold npM sI
  simp only [Prod.mk.injEq, and_true]
  funext a s'
  by_cases q : a.1 = 10 ∨ a.1 = 11
  · rw [if_pos q, if_pos q]
  · rw [if_neg q, if_neg q, if_neg]
    rintro ⟨rfl, -⟩
    exact q ht
def npW (h : Hp) : Hp := (fun a s => if (a = (20, 0) ∧ s = 14) ∨ a = (30, 0) then 0 else h.1 a s, h.2.1, h.2.2.1, h.2.2.2)
theorem npW_14 {h : Hp} {v : Int32} : npW (sI h (20, 0) 14 v) = npW h := by
  unfold npW sI
  simp only [Prod.mk.injEq, and_true]
  funext a s'
  by_cases q : (a = (20, 0) ∧ s' = 14) ∨ a = (30, 0)
  · rw [if_pos q, if_pos q]
  · rw [if_neg q, if_neg q, if_neg (fun z => q (Or.inl z))]
theorem npW_30 {h : Hp} {s : Nat} {v : Int32} : npW (sI h (30, 0) s v) = npW h := by
  unfold npW sI
  simp only [Prod.mk.injEq, and_true]
  funext a s'
  by_cases q : (a = (20, 0) ∧ s' = 14) ∨ a = (30, 0)
  · rw [if_pos q, if_pos q]
  · rw [if_neg q, if_neg q, if_neg (fun z => q (Or.inr z.1))]
def MSt (c : Hp) (L : List Nat) : Prop := L.length ≤ 168 ∧ gI c (10, 0) 1 = nI (168 - L.length) ∧ ∀ j, j < L.length → gI c (11, 0) (168 - L.length + j) = nI (L.getD j 0)
def WSt (m : Hp) (L : List Nat) : Prop := L.length ≤ 200 ∧ gI m (20, 0) 14 = nI L.length ∧ ∀ j, j < L.length → gI m (30, 0) j = nI (L.getD j 0)
theorem putBefore_eq {c : Hp} {L : List Nat} {b : Nat} (h : MSt c L) (hl : L.length < 168) (hb : b < 65536) : ∃ c', msg_putBefore (nI b) c = some c' ∧ MSt c' (b :: L) ∧ npM c' = npM c := by
  obtain ⟨h1, h2, h3⟩ := h
  have e1 : nI (168 - L.length) - 1 = nI (168 - L.length - 1) := by rw [show (1 : Int32) = nI 1 from rfl, nI_sub (by omega)]
  have g1 : ∀ v, gI (sI c (10, 0) 1 v) (10, 0) 1 = v := fun _ => rfl
  unfold msg_putBefore
  rw [h2, if_neg (nI_nle (by omega) (by omega)), e1, g1, gB (by omega) (by decide), clI (by omega), vnar hb]
  refine ⟨_, rfl, ⟨by rw [List.length_cons]; omega, ?_, fun j hj => ?_⟩, ?_⟩
  · rw [List.length_cons, show 168 - (L.length + 1) = 168 - L.length - 1 by omega]; rfl
  · show (if (11, 0) = ((11, 0) : Ad) ∧ 168 - (b :: L).length + j = 168 - L.length - 1 then nI b else gI c (11, 0) (168 - (b :: L).length + j)) = _
    rw [List.length_cons] at hj ⊢
    cases j with
    | zero => rw [if_pos ⟨rfl, by omega⟩]; rfl
    | succ j =>
      rw [if_neg (fun z => by omega), show 168 - (L.length + 1) + (j + 1) = 168 - L.length + j by omega, h3 j (by omega)]
      rfl
  · rw [npM_sI (Or.inr rfl), npM_sI (Or.inl rfl)]
theorem write_eq {m : Hp} {L : List Nat} {b : Nat} (h : WSt m L) (hl : L.length < 200) (hb : b < 256) : ∃ m', m_write (nI b) m = some m' ∧ WSt m' (L ++ [b]) ∧ npW m' = npW m := by
  obtain ⟨h1, h2, h3⟩ := h
  have hc : ((nI b).toUInt32 % 65536).toInt32 = nI b := (sb_byte' b hb)
  unfold m_write
  rw [h2, gB (by omega) (by decide), clI (by omega), hc, vnar (by omega)]
  refine ⟨_, rfl, ⟨by rw [List.length_append]; simp; omega, ?_, fun j hj => ?_⟩, ?_⟩
  · show gI m (20, 0) 14 + 1 = _
    rw [h2, nI_1, List.length_append]; rfl
  · show (if (30, 0) = ((30, 0) : Ad) ∧ j = L.length then nI b else gI m (30, 0) j) = _
    rw [List.length_append, List.length_singleton] at hj
    by_cases e : j = L.length
    · rw [if_pos ⟨rfl, e⟩, e]
      simp [List.getD]
    · rw [if_neg (fun z => e z.2), h3 j (by omega)]
      congr 1
      simp [List.getD, List.getElem?_append, show j < L.length by omega]
  · rw [npW_14, npW_30]
