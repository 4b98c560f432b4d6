/-! the line: its command -/
theorem line_at_eq {c m : Hp} {n j : Nat} (h : rLine c m n) (hj : j < 2 ^ 31) : line_at (nI j) c = some (if j < n then nI (chN m j) else 0) := by
  obtain ⟨l1, l2, l3, l4⟩ := h
  unfold line_at
  rw [if_neg (nI_pos hj), l2]
  have e1 : (nI n ≤ nI j) = (n ≤ j) := nle (by omega) (by omega)
  simp only [e1]
  by_cases q : j < n
  · obtain ⟨a1, a2, a3, a4⟩ := l4 j q
    rw [if_neg (by omega), if_pos q, gB (by omega) (by decide), clI hj, a1, a2, Option.bind_some, guC (by omega)]
  · rw [if_pos (by omega), if_neg q, Option.bind_some]
    exact guC (a := 0) (by decide) _
theorem line_at_in {c m : Hp} {n j : Nat} (h : rLine c m n) (hj : j < n) : line_at (nI j) c = some (nI (chN m j)) := by
  rw [line_at_eq h (by have := h.1; omega), if_pos hj]
theorem ch_b {c m : Hp} {n j : Nat} (h : rLine c m n) (hj : j < n) : 32 ≤ chN m j ∧ chN m j ≤ 126 := (h.2.2.2 j hj).2.2
theorem ch_m {c m : Hp} {n j : Nat} (h : rLine c m n) (hj : j < n) : gI m (29, 0) j = nI (chN m j) := (h.2.2.2 j hj).2.1
/-- the first place below n where p holds, or n -/
def fp (p : Nat → Bool) (n : Nat) : Nat := (ffi p n).getD n
theorem fp_le (p : Nat → Bool) (n : Nat) : fp p n ≤ n := by
  unfold fp
  cases h : ffi p n with
  | none => exact Nat.le_refl _
  | some k => exact Nat.le_of_lt (ffi_some h).1
theorem fp_lt {p : Nat → Bool} {n j : Nat} (hj : j < fp p n) : p j = false := by
  have hl := fp_le p n
  unfold fp at hj
  cases h : ffi p n with
  | none => rw [h] at hj; exact ffi_none h j hj
  | some k => rw [h] at hj; exact (ffi_some h).2.2 j hj
theorem fp_at {p : Nat → Bool} {n : Nat} (h : fp p n < n) : p (fp p n) = true := by
  unfold fp at h ⊢
  cases e : ffi p n with
  | none => rw [e] at h; exact absurd h (by simp)
  | some k => exact (ffi_some e).2.1
theorem fp_eq {p : Nat → Bool} {n k : Nat} (hk : k ≤ n) (h1 : ∀ j, j < k → p j = false) (h2 : k < n → p k = true) : fp p n = k := by
  have hl := fp_le p n
  by_cases a : fp p n < k
  · have := fp_at (p := p) (n := n) (by omega)
    rw [h1 _ a] at this
    cases this
  · by_cases b : k < fp p n
    · have := fp_lt b
      rw [h2 (by omega)] at this
      cases this
    · omega
def cl (m : Hp) (n : Nat) : Nat := fp (fun j => decide (chN m j = 32)) n
theorem cmdLen_eq {c m : Hp} {n : Nat} (h : rLine c m n) : line_commandLength c = some (nI (cl m n)) := by
  obtain ⟨l1, l2, l3, l4⟩ := id h
  have e := iter_find0 (f := line_commandLength_l2 c) (n := n) (fun j => decide (chN m j = 32)) (fun k => .inl (nI k)) (.inr (nI n)) (by omega) (fun k hk => by
    have b := ch_b h hk
    rw [line_commandLength_l2, l2, if_neg (by rw [nle (by omega) (by omega)]; omega), if_neg (by rw [show (32 : Int32) = nI 32 from rfl, nle (by omega) (by omega)]; omega), gB (by omega) (by decide), clI (by omega), (l4 k hk).1, ch_m h hk]
    have e2 : (nI (chN m k) = (32 : Int32)) = (chN m k = 32) := neq (k := 32) (by decide) (by omega)
    simp only [e2, decide_eq_true_eq]
    by_cases q : chN m k = 32
    · rw [if_pos q, if_pos q]
    · rw [if_neg q, if_neg q, nI_1]) (by
    rw [line_commandLength_l2, l2, if_pos (by rw [nle (by omega) (by omega)]; omega)])
  rw [line_commandLength, e, Option.bind_some]
  unfold cl fp
  cases ffi (fun j => decide (chN m j = 32)) n with
  | none => show some (gI c (1, 0) 1) = _; rw [l2]; rfl
  | some k => rfl
def cap (a : Nat) : Nat := if 97 ≤ a ∧ a ≤ 122 then a - 32 else a
def ltr (a : Nat) : Bool := (decide (97 ≤ a) && decide (a ≤ 122)) || (decide (65 ≤ a) && decide (a ≤ 90))
theorem capital0 : ∀ a, a < 128 → line_capital (nI a) hZ = some (nI (cap a)) := by decide +kernel
theorem capital {a : Nat} (ha : a < 128) (h : Hp) : line_capital (nI a) h = some (nI (cap a)) := capital0 a ha
theorem ltr95 : ∀ a, a < 128 → ltr a = true → nI a &&& (95 : Int32) = nI (cap a) ∧ 65 ≤ cap a ∧ cap a ≤ 90 := by decide +kernel
theorem cap_ltr : ∀ a, a < 128 → 65 ≤ cap a → cap a ≤ 90 → ltr a = true ∧ a ≠ 32 := by decide +kernel
def tx (k j : Nat) : Nat := (((sCh k j) &&& (255 : Int32)).toUInt32 % 65536).toInt32.toNatClampNeg
theorem tx0 : ∀ k, k < 22 → str_length k hZ = some (nI (sLen k)) ∧ 3 ≤ sLen k ∧ sLen k ≤ 4 ∧ ∀ j, j < sLen k → str_charAt k (nI j) hZ = some (nI (tx k j)) ∧ 65 ≤ tx k j ∧ tx k j ≤ 90 := by decide +kernel
theorem strlen {k : Nat} (hk : k < 22) (h : Hp) : str_length k h = some (nI (sLen k)) := (tx0 k hk).1
theorem strchar {k j : Nat} (hk : k < 22) (hj : j < sLen k) (h : Hp) : str_charAt k (nI j) h = some (nI (tx k j)) := ((tx0 k hk).2.2.2 j hj).1
theorem nd22 {k : Nat} (hk : k < 22) : nd 22 (some k) = some k := by
  unfold nd
  rw [Option.bind_some, if_pos hk]
theorem nd24 {k : Nat} (hk : k < 24) : nd 24 (some k) = some k := by
  unfold nd
  rw [Option.bind_some, if_pos hk]
def swB (m : Hp) (n k : Nat) : Bool := decide (cl m n = sLen k) && decide (ffi (fun j => decide (cap (chN m j) ≠ tx k j)) (sLen k) = none)
theorem sw_eq {c m : Hp} {n k : Nat} (h : rLine c m n) (hk : k < 22) : line_startsWithCommand (some k) c = some (if swB m n k = true then 1 else 0) := by
  obtain ⟨l1, l2, l3, l4⟩ := id h
  have hcl : cl m n ≤ n := fp_le _ _
  obtain ⟨t1, t2, t3, t4⟩ := tx0 k hk
  rw [line_startsWithCommand, cmdLen_eq h, Option.bind_some, nd22 hk, Option.bind_some, strlen hk, Option.bind_some]
  have e1 : (nI (cl m n) = nI (sLen k)) = (cl m n = sLen k) := neq (by omega) (by omega)
  simp only [e1, swB, Bool.and_eq_true, decide_eq_true_eq]
  by_cases a : cl m n = sLen k
  · have e := iter_find0 (f := line_startsWithCommand_l15 (some k) c) (n := sLen k) (fun j => decide (cap (chN m j) ≠ tx k j)) (fun k => .inl 0) (.inr (nI (sLen k))) (by omega) (fun j hj => by
      have b := ch_b h (show j < n by omega)
      obtain ⟨s1, s2, s3⟩ := t4 j hj
      rw [line_startsWithCommand_l15, nd22 hk, Option.bind_some, strlen hk, Option.bind_some, if_neg (by rw [nle (by omega) (by omega)]; omega), line_at_in h (by omega), Option.bind_some, capital (by omega), Option.bind_some, strchar hk hj, Option.bind_some]
      have hc : cap (chN m j) ≤ 126 := by unfold cap; split <;> omega
      have e2 : (nI (cap (chN m j)) = nI (tx k j)) = (cap (chN m j) = tx k j) := neq (by omega) (by omega)
      simp only [e2, decide_eq_true_eq]
      by_cases q : cap (chN m j) = tx k j
      · rw [if_pos q, if_neg (fun z => z q), nI_1]
      · rw [if_neg q, if_pos q]) (by
      rw [line_startsWithCommand_l15, nd22 hk, Option.bind_some, strlen hk, Option.bind_some, if_pos (by rw [nle (by omega) (by omega)]; omega)])
    rw [if_pos a, e, Option.bind_some]
    cases q : ffi (fun j => decide (cap (chN m j) ≠ tx k j)) (sLen k) with
    | none => rw [if_pos ⟨a, rfl⟩]; rfl
    | some x => rw [if_neg (by rintro ⟨-, z⟩; cases z)]; rfl
  · rw [if_neg a, if_neg (fun z => a z.1)]
theorem cmd_eq {c m : Hp} {n : Nat} (h : rLine c m n) : r_commandOfLine c = some (ffi (swB m n) 22) := by
  have e := iter_find0 (f := r_commandOfLine_l9 c) (n := 22) (swB m n) (fun k => .inl (some k)) (.inr (nI 22)) (by omega) (fun k hk => by
    rw [r_commandOfLine_l9, if_neg (by rw [show (22 : Int32) = nI 22 from rfl, nle (by omega) (by omega)]; omega), gB (by omega) (by decide), clI (by omega), sw_eq h hk, Option.bind_some]
    by_cases q : swB m n k = true
    · rw [if_pos q, if_neg (by decide)]; simp only [q, if_true]
    · rw [if_neg q, if_pos rfl, nI_1, if_neg q]) (by
    rw [r_commandOfLine_l9, if_pos (by decide)])
  rw [r_commandOfLine, e, Option.bind_some]
  cases ffi (swB m n) 22 <;> rfl
theorem sw_iff {m : Hp} {n k : Nat} : swB m n k = true ↔ cl m n = sLen k ∧ ∀ j, j < sLen k → cap (chN m j) = tx k j := by
  unfold swB
  rw [Bool.and_eq_true, decide_eq_true_eq, decide_eq_true_eq]
  constructor
  · rintro ⟨a, b⟩
    refine ⟨a, fun j hj => ?_⟩
    have := ffi_none b j hj
    simpa using this
  · rintro ⟨a, b⟩
    refine ⟨a, ?_⟩
    cases e : ffi (fun j => decide (cap (chN m j) ≠ tx k j)) (sLen k) with
    | none => rfl
    | some x =>
      obtain ⟨x1, x2, -⟩ := ffi_some e
      exact absurd (b x x1) (by simpa using x2)
/-- the letters packed, four at most -/
def pkN (f : Nat → Nat) : Nat → Nat
  | 0 => 0
  | k + 1 => pkN f k * 256 + f k
theorem pk_inj {f g : Nat → Nat} {a b : Nat} (ha : a ≤ 4) (hb : b ≤ 4) (hf : ∀ j, j < a → 65 ≤ f j ∧ f j ≤ 90) (hg : ∀ j, j < b → 65 ≤ g j ∧ g j ≤ 90) (h : pkN f a = pkN g b) : a = b ∧ ∀ j, j < a → f j = g j := by
  have f0 := hf 0; have f1 := hf 1; have f2 := hf 2; have f3 := hf 3
  have g0 := hg 0; have g1 := hg 1; have g2 := hg 2; have g3 := hg 3
  rcases (show a = 0 ∨ a = 1 ∨ a = 2 ∨ a = 3 ∨ a = 4 by omega) with rfl | rfl | rfl | rfl | rfl <;> rcases (show b = 0 ∨ b = 1 ∨ b = 2 ∨ b = 3 ∨ b = 4 by omega) with rfl | rfl | rfl | rfl | rfl <;> simp only [pkN] at h <;> first | (exfalso; omega) | skip
  · exact ⟨rfl, fun j hj => by omega⟩
  · exact ⟨rfl, fun j hj => by rw [show j = 0 by omega]; omega⟩
  · refine ⟨rfl, fun j hj => ?_⟩
    rcases (show j = 0 ∨ j = 1 by omega) with rfl | rfl <;> omega
  · refine ⟨rfl, fun j hj => ?_⟩
    rcases (show j = 0 ∨ j = 1 ∨ j = 2 by omega) with rfl | rfl | rfl <;> omega
  · refine ⟨rfl, fun j hj => ?_⟩
    rcases (show j = 0 ∨ j = 1 ∨ j = 2 ∨ j = 3 by omega) with rfl | rfl | rfl | rfl <;> omega
def pkT (k : Nat) : Int32 := nI (pkN (tx k) (sLen k))
