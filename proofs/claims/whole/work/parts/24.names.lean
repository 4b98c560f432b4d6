/-! names: what both sides make of a long's bytes and of a part of the line -/
def sg (a : Nat) : Bool := (decide (97 ≤ a) && decide (a ≤ 122)) || (decide (48 ≤ a) && decide (a ≤ 57)) || decide (a = 45) || decide (a = 46)
theorem isSign0 : ∀ a, a < 256 → name_isSign (nI a) hZ = some (if sg a = true then 1 else 0) := by decide +kernel
theorem isSign {a : Nat} (ha : a < 256) (h : Hp) : name_isSign (nI a) h = some (if sg a = true then 1 else 0) := isSign0 a ha
theorem mfits0 : ∀ a, a < 256 → m_fits (lN a) hZ = some (if sg a = true then 1 else 0) := by decide +kernel
theorem mfits {a : Nat} (ha : a < 256) (h : Hp) : m_fits (lN a) h = some (if sg a = true then 1 else 0) := mfits0 a ha
def nmv (b : Nat → Nat) : Nat → Nat
  | 0 => 0
  | k + 1 => nmv b k + b k * 2 ^ (40 - 8 * k)
def okn (b : Nat → Nat) : Nat → Bool
  | 0 => true
  | k + 1 => okn b k && sg (b k)
def dts (b : Nat → Nat) : Nat → Bool
  | 0 => true
  | k + 1 => dts b k && decide (b k = 46)
def NV (b : Nat → Nat) (len : Nat) : Nat := if len ≤ 6 ∧ okn b len = true then nmv b len else 0
def ND (b : Nat → Nat) (len : Nat) : Nat := if dts b len = true ∧ len < 3 then 0 else NV b len
theorem okn_iff {b : Nat → Nat} : ∀ {n : Nat}, okn b n = true ↔ ∀ j, j < n → sg (b j) = true
  | 0 => by simp [okn]
  | n + 1 => by
    rw [okn, Bool.and_eq_true, okn_iff]
    constructor
    · intro h j hj
      by_cases e : j = n
      · rw [e]; exact h.2
      · exact h.1 j (by omega)
    · exact fun h => ⟨fun j hj => h j (by omega), h n (by omega)⟩
theorem dts_iff {b : Nat → Nat} : ∀ {n : Nat}, dts b n = true ↔ ∀ j, j < n → b j = 46
  | 0 => by simp [dts]
  | n + 1 => by
    rw [dts, Bool.and_eq_true, dts_iff, decide_eq_true_eq]
    constructor
    · intro h j hj
      by_cases e : j = n
      · rw [e]; exact h.2
      · exact h.1 j (by omega)
    · exact fun h => ⟨fun j hj => h j (by omega), h n (by omega)⟩
theorem nmv_congr {b b' : Nat → Nat} : ∀ {n : Nat}, (∀ j, j < n → b j = b' j) → nmv b n = nmv b' n
  | 0, _ => rfl
  | n + 1, h => by rw [nmv, nmv, nmv_congr fun j hj => h j (by omega), h n (by omega)]
theorem okn_congr {b b' : Nat → Nat} {n : Nat} (h : ∀ j, j < n → b j = b' j) : okn b n = okn b' n := by
  rw [Bool.eq_iff_iff, okn_iff, okn_iff]
  exact ⟨fun z j hj => by rw [← h j hj]; exact z j hj, fun z j hj => by rw [h j hj]; exact z j hj⟩
theorem dts_congr {b b' : Nat → Nat} {n : Nat} (h : ∀ j, j < n → b j = b' j) : dts b n = dts b' n := by
  rw [Bool.eq_iff_iff, dts_iff, dts_iff]
  exact ⟨fun z j hj => by rw [← h j hj]; exact z j hj, fun z j hj => by rw [h j hj]; exact z j hj⟩
theorem NV_congr {b b' : Nat → Nat} {n : Nat} (h : ∀ j, j < n → b j = b' j) : NV b n = NV b' n := by
  rw [NV, NV, nmv_congr h, okn_congr h]
theorem ND_congr {b b' : Nat → Nat} {n : Nat} (h : ∀ j, j < n → b j = b' j) : ND b n = ND b' n := by
  rw [ND, ND, NV_congr h, dts_congr h]
theorem nmv_b {b : Nat → Nat} : ∀ {n : Nat}, n ≤ 6 → (∀ j, j < n → b j < 256) → 2 ^ (48 - 8 * n) ∣ nmv b n ∧ nmv b n + 2 ^ (48 - 8 * n) ≤ 2 ^ 48
  | 0, _, _ => ⟨⟨0, rfl⟩, by rw [nmv]; decide⟩
  | n + 1, hn, h => by
    obtain ⟨h1, h2⟩ := nmv_b (n := n) (by omega) fun j hj => h j (by omega)
    have e : 2 ^ (48 - 8 * n) = 256 * 2 ^ (40 - 8 * n) := by
      rw [show 48 - 8 * n = 8 + (40 - 8 * n) by omega, Nat.pow_add]
    have hb := h n (by omega)
    rw [nmv, show 48 - 8 * (n + 1) = 40 - 8 * n by omega]
    refine ⟨Nat.dvd_add (Nat.dvd_trans ⟨256, by rw [e, Nat.mul_comm]⟩ h1) ⟨b n, Nat.mul_comm _ _⟩, ?_⟩
    have h3 : (b n + 1) * 2 ^ (40 - 8 * n) ≤ 256 * 2 ^ (40 - 8 * n) := Nat.mul_le_mul_right _ (by omega)
    rw [Nat.add_mul, Nat.one_mul] at h3
    omega
theorem nmv_lt {b : Nat → Nat} {n : Nat} (hn : n ≤ 6) (h : ∀ j, j < n → b j < 256) : nmv b n < 2 ^ 48 := by
  have := (nmv_b hn h).2
  have := Nat.two_pow_pos (48 - 8 * n)
  omega
theorem NV_lt {b : Nat → Nat} {n : Nat} (h : ∀ j, j < n → b j < 256) : NV b n < 2 ^ 48 := by
  unfold NV
  by_cases q : n ≤ 6 ∧ okn b n = true
  · rw [if_pos q]; exact nmv_lt q.1 h
  · rw [if_neg q]; decide
theorem ND_lt {b : Nat → Nat} {n : Nat} (h : ∀ j, j < n → b j < 256) : ND b n < 2 ^ 48 := by
  unfold ND
  by_cases q : dts b n = true ∧ n < 3
  · rw [if_pos q]; decide
  · rw [if_neg q]; exact NV_lt h
def bw (w k : Nat) : Nat := w / 2 ^ (8 * k) % 256
theorem bw_lt (w k : Nat) : bw w k < 256 := Nat.mod_lt _ (by decide)
theorem byC' {w k : Nat} (hw : w < 2 ^ 64) (hk : k < 8) : ((lN w).toUInt64 >>> (((8 : Int32) * nI k).toInt64.toUInt64 &&& Int64.toUInt64 63)).toInt64 &&& (255 : Int64) = lN (bw w k) := byC hw hk
theorem byM' {w k : Nat} (hk : k < 8) : (lN w >>> (((8 : Int32) * nI k).toInt64 &&& 63)) &&& (255 : Int64) = lN (bw w k) := byM hk
/-- how many bytes of w stand before its first 0 -/
def lw (w : Nat) : Nat := (ffi (fun k => decide (bw w k = 0)) 8).getD 8
theorem lw_le (w : Nat) : lw w ≤ 8 := by
  unfold lw
  cases h : ffi (fun k => decide (bw w k = 0)) 8 with
  | none => exact Nat.le_refl _
  | some k => exact Nat.le_of_lt (ffi_some h).1
theorem lw_ne {w j : Nat} (h : j < lw w) : bw w j ≠ 0 := by
  have h8 := lw_le w
  unfold lw at h
  cases e : ffi (fun k => decide (bw w k = 0)) 8 with
  | none =>
    rw [e] at h
    have := ffi_none e j h
    simpa using this
  | some k =>
    rw [e] at h
    have := (ffi_some e).2.2 j h
    simpa using this
theorem lw_z {w : Nat} (h : lw w < 8) : bw w (lw w) = 0 := by
  unfold lw at h ⊢
  cases e : ffi (fun k => decide (bw w k = 0)) 8 with
  | none => rw [e] at h; exact absurd h (by decide)
  | some k =>
    have := (ffi_some e).2.1
    simpa using this
theorem partOfWord_eq {w : Nat} (hw : w < 2 ^ 64) (h : Hp) : name_partOfWord (lN w) h = some (lN (NV (bw w) (lw w))) := by
  have hl := lw_le w
  have key : ∃ x, iter (name_partOfWord_l5 (lN w) h) FU ((0 : Int64), (0 : Int32)) = some x ∧ x.elim (fun r => r = lN (NV (bw w) (lw w))) (fun _ => False) := by
    refine iterN (P := fun m s => ∃ k, k + m = 8 ∧ k ≤ lw w ∧ k ≤ 6 ∧ okn (bw w) k = true ∧ s = (lN (nmv (bw w) k), nI k)) ?_ FU 8 _ ⟨0, rfl, by omega, by omega, rfl, rfl⟩ (by decide)
    rintro m s ⟨k, e, hk, hk6, ho, rfl⟩
    rw [name_partOfWord_l5]
    have c1 : ¬ (8 : Int32) ≤ nI k := by
      simp (disch := omega) only [Int32.le_iff_toInt_le, Int32.lt_iff_toInt_lt, ← Int32.toInt_inj, nI_toInt, Int32.reduceToInt]; omega
    rw [if_neg c1, byC' hw (by omega), lN_i]
    have hb := bw_lt w k
    by_cases z : bw w k = 0
    · left
      refine ⟨.inl (lN (nmv (bw w) k)), ?_, ?_⟩
      · rw [z, if_pos (show nI 0 = 0 from rfl)]
      · have : lw w = k := by
          by_cases q : k < lw w
          · exact absurd z (lw_ne q)
          · omega
        show lN (nmv (bw w) k) = _
        rw [this, NV, if_pos ⟨hk6, ho⟩]
    · have hkl : k < lw w := by
        by_cases q : k = lw w
        · exact absurd (q ▸ lw_z (by omega)) z
        · omega
      have c2 : ¬ nI (bw w k) = 0 := nI_ne0 (by omega) (by omega)
      rw [if_neg c2]
      by_cases h6 : k = 6
      · left
        have c3 : (6 : Int32) ≤ nI k := by subst h6; decide
        rw [if_pos c3]
        refine ⟨_, rfl, ?_⟩
        show (0 : Int64) = _
        rw [NV, if_neg (by omega)]; rfl
      · have c3 : ¬ (6 : Int32) ≤ nI k := by
          simp (disch := omega) only [Int32.le_iff_toInt_le, Int32.lt_iff_toInt_lt, ← Int32.toInt_inj, nI_toInt, Int32.reduceToInt]; omega
        rw [if_neg c3, isSign hb, Option.bind_some]
        by_cases sgk : sg (bw w k) = true
        · right
          rw [if_pos sgk, if_neg (by decide)]
          refine ⟨_, m - 1, by omega, rfl, k + 1, by omega, by omega, by omega, by rw [okn, ho, sgk]; rfl, ?_⟩
          have hd := nmv_b (n := k) (by omega) (fun j _ => bw_lt w j)
          rw [orH (by omega) hb hd.1 (by have := Nat.two_pow_pos (48 - 8 * k); omega), nI_1]
          rfl
        · left
          rw [if_neg sgk, if_pos rfl]
          refine ⟨_, rfl, ?_⟩
          show (0 : Int64) = _
          rw [NV, if_neg]
          · rfl
          · intro q
            exact sgk (okn_iff.mp q.2 k hkl)
  obtain ⟨x, e, q⟩ := key
  rw [name_partOfWord, e, Option.bind_some]
  cases x with
  | inl r => exact congrArg some q
  | inr r => exact absurd q (by exact id)
theorem sg46 : sg 46 = true := rfl
theorem dts_okn {b : Nat → Nat} {n : Nat} (h : dts b n = true) : okn b n = true := okn_iff.mpr fun j hj => by rw [dts_iff.mp h j hj]; rfl
theorem sg_ne {a : Nat} (h : sg a = true) : 45 ≤ a ∧ a ≤ 122 := by
  simp only [sg, Bool.or_eq_true, Bool.and_eq_true, decide_eq_true_eq] at h
  omega
theorem NV_dot {b : Nat → Nat} {n : Nat} : NV b n = 50577534877696 ↔ dts b n = true ∧ n = 1 := by
  unfold NV
  by_cases q : n ≤ 6 ∧ okn b n = true
  · rw [if_pos q]
    obtain ⟨q1, q2⟩ := q
    have q3 : ∀ j, j < n → 45 ≤ b j ∧ b j ≤ 122 := fun j hj => sg_ne (okn_iff.mp q2 j hj)
    rw [dts_iff]
    have a0 := q3 0; have a1 := q3 1; have a2 := q3 2; have a3 := q3 3; have a4 := q3 4; have a5 := q3 5
    rcases (show n = 0 ∨ n = 1 ∨ n = 2 ∨ n = 3 ∨ n = 4 ∨ n = 5 ∨ n = 6 by omega) with rfl | rfl | rfl | rfl | rfl | rfl | rfl
    · simp [nmv]
    · simp only [nmv]
      constructor
      · intro h
        refine ⟨fun j hj => ?_, trivial⟩
        obtain rfl : j = 0 := by omega
        omega
      · intro h
        have := h.1 0 (by omega)
        omega
    all_goals
      simp only [nmv]
      constructor
      · intro h; omega
      · intro h; omega
  · rw [if_neg q]
    constructor
    · intro h; cases h
    · intro h
      exact absurd ⟨by omega, dts_okn h.1⟩ q
theorem NV_dots {b : Nat → Nat} {n : Nat} : NV b n = 50775103373312 ↔ dts b n = true ∧ n = 2 := by
  unfold NV
  by_cases q : n ≤ 6 ∧ okn b n = true
  · rw [if_pos q]
    obtain ⟨q1, q2⟩ := q
    have q3 : ∀ j, j < n → 45 ≤ b j ∧ b j ≤ 122 := fun j hj => sg_ne (okn_iff.mp q2 j hj)
    rw [dts_iff]
    have a0 := q3 0; have a1 := q3 1; have a2 := q3 2; have a3 := q3 3; have a4 := q3 4; have a5 := q3 5
    rcases (show n = 0 ∨ n = 1 ∨ n = 2 ∨ n = 3 ∨ n = 4 ∨ n = 5 ∨ n = 6 by omega) with rfl | rfl | rfl | rfl | rfl | rfl | rfl
    · simp [nmv]
    · simp only [nmv]
      constructor
      · intro h; omega
      · intro h; omega
    · simp only [nmv]
      constructor
      · intro h
        refine ⟨fun j hj => ?_, trivial⟩
        have e0 : b 0 = 46 := by omega
        have e1 : b 1 = 46 := by omega
        rcases (show j = 0 ∨ j = 1 by omega) with rfl | rfl
        · exact e0
        · exact e1
      · intro h
        have := h.1 0 (by omega)
        have := h.1 1 (by omega)
        omega
    all_goals
      simp only [nmv]
      constructor
      · intro h; omega
      · intro h; omega
  · rw [if_neg q]
    constructor
    · intro h; cases h
    · intro h
      exact absurd ⟨by omega, dts_okn h.1⟩ q
theorem isDots_eq {b : Nat → Nat} {n : Nat} (hb : ∀ j, j < n → b j < 256) (h : Hp) : name_isDots (lN (NV b n)) h = some (if dts b n = true ∧ (n = 1 ∨ n = 2) then 1 else 0) := by
  have hl := NV_lt hb
  have e1 : (lN (NV b n) = (50577534877696 : Int64)) = (dts b n = true ∧ n = 1) := propext ((lN_inj (b := 50577534877696) (by omega) (by decide)).trans NV_dot)
  have e2 : (lN (NV b n) = (50775103373312 : Int64)) = (dts b n = true ∧ n = 2) := propext ((lN_inj (b := 50775103373312) (by omega) (by decide)).trans NV_dots)
  simp only [name_isDots, e1, e2]
  by_cases a : dts b n = true ∧ n = 1
  · rw [if_pos a, if_pos ⟨a.1, Or.inl a.2⟩]; rfl
  · rw [if_neg a]
    by_cases c : dts b n = true ∧ n = 2
    · rw [if_pos c, if_pos ⟨c.1, Or.inr c.2⟩]; rfl
    · rw [if_neg c, if_neg]
      · rfl
      · rintro ⟨x, y | y⟩
        · exact a ⟨x, y⟩
        · exact c ⟨x, y⟩
theorem withoutDots_eq {b : Nat → Nat} {n : Nat} (hb : ∀ j, j < n → b j < 256) (h : Hp) : name_withoutDots (lN (NV b n)) h = some (lN (ND b n)) := by
  rw [name_withoutDots, isDots_eq hb, Option.bind_some, ND]
  by_cases a : dts b n = true ∧ (n = 1 ∨ n = 2)
  · rw [if_pos a, if_neg (by decide), if_pos ⟨a.1, by omega⟩]; rfl
  · rw [if_neg a, if_pos rfl, Option.bind_some]
    by_cases c : dts b n = true ∧ n < 3
    · rw [if_pos c]
      have : n = 0 := by
        have h1 : ¬ (n = 1 ∨ n = 2) := fun z => a ⟨c.1, z⟩
        omega
      subst this
      rfl
    · rw [if_neg c]
theorem nameOf_eq {w : Nat} (h : Hp) : m_nameOf (lN w) h = some (lN (ND (bw w) (lw w))) := by
  have hl := lw_le w
  have key : ∃ x, iter (m_nameOf_l11 (lN w) h) FU ((0 : Int64), (0 : Int32), (1 : Int32), (1 : Int32)) = some x ∧ x = (lN (nmv (bw w) (min (lw w) 6)), nI (lw w), (if lw w ≤ 6 ∧ okn (bw w) (lw w) = true then (1 : Int32) else 0), (if dts (bw w) (lw w) = true then (1 : Int32) else 0)) := by
    refine iterN (P := fun m s => ∃ k, k + m = 8 ∧ k ≤ lw w ∧ s = (lN (nmv (bw w) (min k 6)), nI k, (if k ≤ 6 ∧ okn (bw w) k = true then (1 : Int32) else 0), (if dts (bw w) k = true then (1 : Int32) else 0))) ?_ FU 8 _ ⟨0, rfl, by omega, rfl⟩ (by decide)
    rintro m s ⟨k, e, hk, rfl⟩
    rw [m_nameOf_l11]
    by_cases k8 : k = 8
    · left
      rw [if_pos (by rw [k8]; decide)]
      exact ⟨_, rfl, by rw [show k = lw w by omega]⟩
    · have c1 : ¬ (8 : Int32) ≤ nI k := by
        simp (disch := omega) only [Int32.le_iff_toInt_le, Int32.lt_iff_toInt_lt, ← Int32.toInt_inj, nI_toInt, Int32.reduceToInt]; omega
      rw [if_neg c1, byM' (by omega)]
      have hb := bw_lt w k
      by_cases z : bw w k = 0
      · left
        rw [z, if_pos (show lN 0 = 0 from rfl)]
        refine ⟨_, rfl, ?_⟩
        have : k = lw w := by
          by_cases q : k < lw w
          · exact absurd z (lw_ne q)
          · omega
        rw [this]
      · right
        have hkl : k < lw w := by
          by_cases q : k = lw w
          · exact absurd (q ▸ lw_z (by omega)) z
          · omega
        have c2 : ¬ lN (bw w k) = (0 : Int64) := fun q => z ((lN_inj (by omega) (by decide)).mp q)
        rw [if_neg c2]
        have c3 : ((6 : Int32) ≤ nI k) = (6 ≤ k) := by
          simp (disch := omega) only [Int32.le_iff_toInt_le, Int32.lt_iff_toInt_lt, ← Int32.toInt_inj, nI_toInt, Int32.reduceToInt]
          exact propext (by omega)
        have c4 : (lN (bw w k) = (46 : Int64)) = (bw w k = 46) := propext (lN_inj (b := 46) (by omega) (by decide))
        simp only [c3, c4, mfits hb, Option.bind_some]
        refine ⟨_, m - 1, by omega, ?_, k + 1, by omega, by omega, rfl⟩
        have t1 : (if (if k ≤ 6 ∧ okn (bw w) k = true then (1 : Int32) else 0) = 0 then some (0 : Int32) else if 6 ≤ k then some 0 else if (if sg (bw w k) = true then (1 : Int32) else 0) = 0 then some 0 else some 1) = some (if k + 1 ≤ 6 ∧ okn (bw w) (k + 1) = true then (1 : Int32) else 0) := by
          rw [okn]
          by_cases a1 : k ≤ 6 ∧ okn (bw w) k = true
          · rw [if_pos a1, if_neg (by decide)]
            by_cases a2 : 6 ≤ k
            · rw [if_pos a2, if_neg (by omega)]
            · rw [if_neg a2, a1.2, Bool.true_and]
              by_cases a3 : sg (bw w k) = true
              · rw [if_pos a3, if_neg (by decide), if_pos ⟨by omega, a3⟩]
              · rw [if_neg a3, if_pos rfl, if_neg (fun z => a3 z.2)]
          · rw [if_neg a1, if_pos rfl, if_neg]
            rw [Bool.and_eq_true]
            exact fun z => a1 ⟨by omega, z.2.1⟩
        have t2 : (if (if dts (bw w) k = true then (1 : Int32) else 0) = 0 then some (0 : Int32) else if bw w k = 46 then some 1 else some 0) = some (if dts (bw w) (k + 1) = true then (1 : Int32) else 0) := by
          rw [dts]
          by_cases a1 : dts (bw w) k = true
          · rw [if_pos a1, if_neg (by decide), a1, Bool.true_and]
            by_cases a3 : bw w k = 46
            · rw [if_pos a3, if_pos (decide_eq_true a3)]
            · rw [if_neg a3, if_neg (by simpa using a3)]
          · rw [if_neg a1, if_pos rfl, if_neg]
            rw [Bool.and_eq_true]
            exact fun z => a1 z.1
        have t3 : (if 6 ≤ k then some (lN (nmv (bw w) (min k 6))) else some (lN (nmv (bw w) (min k 6)) + (lN (bw w k) <<< (((8 : Int32) * ((5 : Int32) - nI k)).toInt64 &&& 63)))) = some (lN (nmv (bw w) (min (k + 1) 6))) := by
          by_cases a2 : 6 ≤ k
          · rw [if_pos a2, show min (k + 1) 6 = min k 6 by omega]
          · rw [if_neg a2, show min (k + 1) 6 = k + 1 by omega, show min k 6 = k by omega, adH (by omega)]; rfl
        rw [t1, Option.bind_some, t2, Option.bind_some, t3, Option.bind_some, nI_1]
  obtain ⟨x, e, rfl⟩ := key
  rw [m_nameOf, e, Option.bind_some]
  simp only [ND, NV]
  by_cases a : lw w ≤ 6 ∧ okn (bw w) (lw w) = true
  · rw [if_pos a, if_neg (by decide), if_pos a, show min (lw w) 6 = lw w by omega]
    by_cases z : lw w = 0
    · rw [z, if_pos (by decide)]; rfl
    · rw [if_neg (nI_nle (by omega) (by omega))]
      have c3 : (nI (lw w) < (3 : Int32)) = (lw w < 3) := by
        simp (disch := omega) only [Int32.le_iff_toInt_le, Int32.lt_iff_toInt_lt, ← Int32.toInt_inj, nI_toInt, Int32.reduceToInt]
        exact propext (by omega)
      simp only [c3]
      by_cases d : dts (bw w) (lw w) = true
      · rw [if_pos d, if_neg (by decide)]
        by_cases g : lw w < 3
        · rw [if_pos g, if_pos ⟨d, g⟩]; rfl
        · rw [if_neg g, if_neg (fun z => g z.2)]; rfl
      · rw [if_neg d, if_pos rfl, if_neg (fun z => d z.1)]; rfl
  · rw [if_neg a, if_pos rfl, if_neg a]
    by_cases d : dts (bw w) (lw w) = true ∧ lw w < 3
    · rw [if_pos d]; rfl
    · rw [if_neg d]; rfl
