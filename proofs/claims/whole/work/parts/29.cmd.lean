/-! the command's number on both sides -/
theorem nI_or {a b : Nat} (ha : a < 2 ^ 31) (hb : b < 2 ^ 31) : nI a ||| nI b = nI (a ||| b) := by
  apply Int32.toBitVec_inj.mp
  rw [Int32.toBitVec_or]
  show BitVec.ofNat 32 a ||| BitVec.ofNat 32 b = BitVec.ofNat 32 (a ||| b)
  apply BitVec.eq_of_toNat_eq
  rw [BitVec.toNat_or, BitVec.toNat_ofNat, BitVec.toNat_ofNat, BitVec.toNat_ofNat, Nat.mod_eq_of_lt (by omega), Nat.mod_eq_of_lt (by omega), Nat.mod_eq_of_lt]
  exact Nat.lt_trans (Nat.or_lt_two_pow ha hb) (by decide)
theorem pk8 {a b : Nat} (ha : a < 2 ^ 23) (hb : b < 256) : (nI a <<< ((8 : Int32) &&& 31)) ||| nI b = nI (a * 256 + b) := by
  rw [pk_shlN ((8 : Int32) &&& 31) 8 (by decide) (by omega), nI_or (by omega) (by omega), Nat.mul_comm, show (2 : Nat) ^ 8 * a ||| b = 2 ^ 8 * a + b from (Nat.two_pow_add_eq_or_of_lt (i := 8) hb a).symm]
def kl (m : Hp) (n : Nat) : Nat := fp (fun j => !ltr (chN m j)) n
def gPk (m : Hp) (k : Nat) (a : Int32) : Int32 := (a <<< ((8 : Int32) &&& 31)) ||| ((gI m (29, 0) k) &&& (95 : Int32))
theorem kl_ltr {m : Hp} {n j : Nat} (h : j < kl m n) : ltr (chN m j) = true := by
  have := fp_lt h
  simpa using this
theorem ltr_iff {a : Nat} : ltr a = true ↔ (97 ≤ a ∧ a ≤ 122) ∨ (65 ≤ a ∧ a ≤ 90) := by
  unfold ltr
  simp only [Bool.or_eq_true, Bool.and_eq_true, decide_eq_true_eq]
theorem letters_eq {c m : Hp} {n : Nat} (h : rLine c m n) : iter (m_readLetters_l4 m) FU ((0 : Int32), (0 : Int32)) = some (nI (kl m n), fo (gPk m) 0 (kl m n)) := by
  obtain ⟨l1, l2, l3, l4⟩ := id h
  have hk := fp_le (fun j => !ltr (chN m j)) n
  have key : ∃ x, iter (m_readLetters_l4 m) FU ((0 : Int32), (0 : Int32)) = some x ∧ x = (nI (kl m n), fo (gPk m) 0 (kl m n)) := by
    refine iterN (P := fun q s => ∃ k, k + q = n ∧ k ≤ kl m n ∧ s = (nI k, fo (gPk m) 0 k)) ?_ FU n _ ⟨0, by omega, by omega, rfl⟩ (by show n < 1000; omega)
    rintro q s ⟨k, e, hkl, rfl⟩
    rw [m_readLetters_l4, l3]
    by_cases a : n ≤ k
    · left
      rw [if_pos (by rw [nle (by omega) (by omega)]; exact a)]
      exact ⟨_, rfl, by rw [show k = kl m n by unfold kl at *; omega]⟩
    · have b := ch_b h (show k < n by omega)
      have cm := ch_m h (show k < n by omega)
      rw [if_neg (by rw [nle (by omega) (by omega)]; exact a), gB (by omega) (by decide), gB (by omega) (by decide), clI (by omega)]
      unfold m_readLetters_j34 m_readLetters_j56
      rw [gB (by omega) (by decide), gB (by omega) (by decide), gB (by omega) (by decide), clI (by omega), cm]
      have e1 : (nI (chN m k) < (97 : Int32)) = (chN m k < 97) := nlt (k := 97) (by decide) (by omega)
      have e2 : (nI (chN m k) ≤ (122 : Int32)) = (chN m k ≤ 122) := nle (k := 122) (by decide) (by omega)
      have e3 : (nI (chN m k) < (65 : Int32)) = (chN m k < 65) := nlt (k := 65) (by decide) (by omega)
      have e4 : ((90 : Int32) < nI (chN m k)) = (90 < chN m k) := nlt (n := 90) (by omega) (by decide)
      simp only [e1, e2, e3, e4]
      by_cases lt : ltr (chN m k) = true
      · right
        have hne : k ≠ kl m n := fun z => by
          have := fp_at (p := fun j => !ltr (chN m j)) (n := n) (show fp (fun j => !ltr (chN m j)) n < n by show kl m n < n; omega)
          have e5 : fp (fun j => !ltr (chN m j)) n = k := z.symm
          simp only [e5, lt] at this
          cases this
        refine ⟨(nI (k + 1), fo (gPk m) 0 (k + 1)), q - 1, by omega, ?_, k + 1, by omega, by omega, rfl⟩
        have eg : fo (gPk m) 0 (k + 1) = (fo (gPk m) 0 k <<< ((8 : Int32) &&& 31)) ||| (nI (chN m k) &&& 95) := by
          rw [fo, gPk, cm]
        rw [eg, nI_1]
        rcases ltr_iff.mp lt with ⟨p1, p2⟩ | ⟨p1, p2⟩
        · rw [if_neg (by omega), if_pos p2]
        · rw [if_pos (by omega), if_neg (by omega), if_neg (by omega)]
      · left
        refine ⟨(nI k, fo (gPk m) 0 k), ?_, ?_⟩
        · have nl : ¬ ((97 ≤ chN m k ∧ chN m k ≤ 122) ∨ (65 ≤ chN m k ∧ chN m k ≤ 90)) := fun z => lt (ltr_iff.mpr z)
          by_cases p1 : chN m k < 97
          · rw [if_pos p1]
            by_cases p2 : chN m k < 65
            · rw [if_pos p2]
            · rw [if_neg p2, if_pos (by omega)]
          · rw [if_neg p1, if_neg (by omega), if_neg (by omega), if_pos (by omega)]
        · have : k = kl m n := by
            by_cases z : k < kl m n
            · exact absurd (kl_ltr z) lt
            · omega
          rw [this]
  obtain ⟨x, e, rfl⟩ := key
  exact e
theorem pkN_lt {f : Nat → Nat} : ∀ {a : Nat}, a ≤ 4 → (∀ j, j < a → f j ≤ 90) → pkN f a < 2 ^ 31 ∧ (a ≤ 3 → pkN f a < 2 ^ 23) := by
  intro a ha hf
  have f0 := hf 0; have f1 := hf 1; have f2 := hf 2; have f3 := hf 3
  rcases (show a = 0 ∨ a = 1 ∨ a = 2 ∨ a = 3 ∨ a = 4 by omega) with rfl | rfl | rfl | rfl | rfl <;> simp only [pkN] <;> omega
theorem pack_eq {c m : Hp} {n : Nat} (h : rLine c m n) : ∀ {a : Nat}, a ≤ 4 → a ≤ kl m n → fo (gPk m) 0 a = nI (pkN (fun j => cap (chN m j)) a)
  | 0, _, _ => rfl
  | a + 1, h1, h2 => by
    have hk : kl m n ≤ n := fp_le _ _
    have lt := kl_ltr (show a < kl m n by omega)
    have b := ch_b h (show a < n by omega)
    obtain ⟨q1, q2, q3⟩ := ltr95 _ (by omega) lt
    have hp := (pkN_lt (f := fun j => cap (chN m j)) (a := a) (by omega) (fun j hj => by
      have := ch_b h (show j < n by omega)
      exact (ltr95 _ (by omega) (kl_ltr (show j < kl m n by omega))).2.2)).2 (by omega)
    rw [fo, gPk, pack_eq h (by omega) (by omega), ch_m h (show a < n by omega), q1, pk8 hp (by omega), pkN]
set_option maxRecDepth 20000 in
theorem cmdOf_in : ∀ k, k < 22 → m_commandOf (pkT k) hZ = some (nI (k + 1)) ∧ ffi (fun j => decide (pkT k = pkT j)) 22 = some k := by decide +kernel
theorem mp0 (h : Hp) : m_pack (85 : Int32) (83 : Int32) (69 : Int32) (82 : Int32) h = some (pkT 0) := by
  have e : m_pack (85 : Int32) (83 : Int32) (69 : Int32) (82 : Int32) hZ = some (pkT 0) := by decide +kernel
  exact e
theorem mp1 (h : Hp) : m_pack (80 : Int32) (65 : Int32) (83 : Int32) (83 : Int32) h = some (pkT 1) := by
  have e : m_pack (80 : Int32) (65 : Int32) (83 : Int32) (83 : Int32) hZ = some (pkT 1) := by decide +kernel
  exact e
theorem mp2 (h : Hp) : m_pack (81 : Int32) (85 : Int32) (73 : Int32) (84 : Int32) h = some (pkT 2) := by
  have e : m_pack (81 : Int32) (85 : Int32) (73 : Int32) (84 : Int32) hZ = some (pkT 2) := by decide +kernel
  exact e
theorem mp3 (h : Hp) : m_pack (78 : Int32) (79 : Int32) (79 : Int32) (80 : Int32) h = some (pkT 3) := by
  have e : m_pack (78 : Int32) (79 : Int32) (79 : Int32) (80 : Int32) hZ = some (pkT 3) := by decide +kernel
  exact e
theorem mp4 (h : Hp) : m_pack (0 : Int32) (80 : Int32) (87 : Int32) (68 : Int32) h = some (pkT 4) := by
  have e : m_pack (0 : Int32) (80 : Int32) (87 : Int32) (68 : Int32) hZ = some (pkT 4) := by decide +kernel
  exact e
theorem mp5 (h : Hp) : m_pack (0 : Int32) (67 : Int32) (87 : Int32) (68 : Int32) h = some (pkT 5) := by
  have e : m_pack (0 : Int32) (67 : Int32) (87 : Int32) (68 : Int32) hZ = some (pkT 5) := by decide +kernel
  exact e
theorem mp6 (h : Hp) : m_pack (67 : Int32) (68 : Int32) (85 : Int32) (80 : Int32) h = some (pkT 6) := by
  have e : m_pack (67 : Int32) (68 : Int32) (85 : Int32) (80 : Int32) hZ = some (pkT 6) := by decide +kernel
  exact e
theorem mp7 (h : Hp) : m_pack (0 : Int32) (77 : Int32) (75 : Int32) (68 : Int32) h = some (pkT 7) := by
  have e : m_pack (0 : Int32) (77 : Int32) (75 : Int32) (68 : Int32) hZ = some (pkT 7) := by decide +kernel
  exact e
theorem mp8 (h : Hp) : m_pack (0 : Int32) (82 : Int32) (77 : Int32) (68 : Int32) h = some (pkT 8) := by
  have e : m_pack (0 : Int32) (82 : Int32) (77 : Int32) (68 : Int32) hZ = some (pkT 8) := by decide +kernel
  exact e
theorem mp9 (h : Hp) : m_pack (68 : Int32) (69 : Int32) (76 : Int32) (69 : Int32) h = some (pkT 9) := by
  have e : m_pack (68 : Int32) (69 : Int32) (76 : Int32) (69 : Int32) hZ = some (pkT 9) := by decide +kernel
  exact e
theorem mp10 (h : Hp) : m_pack (83 : Int32) (73 : Int32) (90 : Int32) (69 : Int32) h = some (pkT 10) := by
  have e : m_pack (83 : Int32) (73 : Int32) (90 : Int32) (69 : Int32) hZ = some (pkT 10) := by decide +kernel
  exact e
theorem mp11 (h : Hp) : m_pack (82 : Int32) (78 : Int32) (70 : Int32) (82 : Int32) h = some (pkT 11) := by
  have e : m_pack (82 : Int32) (78 : Int32) (70 : Int32) (82 : Int32) hZ = some (pkT 11) := by decide +kernel
  exact e
theorem mp12 (h : Hp) : m_pack (82 : Int32) (78 : Int32) (84 : Int32) (79 : Int32) h = some (pkT 12) := by
  have e : m_pack (82 : Int32) (78 : Int32) (84 : Int32) (79 : Int32) hZ = some (pkT 12) := by decide +kernel
  exact e
theorem mp13 (h : Hp) : m_pack (84 : Int32) (89 : Int32) (80 : Int32) (69 : Int32) h = some (pkT 13) := by
  have e : m_pack (84 : Int32) (89 : Int32) (80 : Int32) (69 : Int32) hZ = some (pkT 13) := by decide +kernel
  exact e
theorem mp14 (h : Hp) : m_pack (82 : Int32) (69 : Int32) (83 : Int32) (84 : Int32) h = some (pkT 14) := by
  have e : m_pack (82 : Int32) (69 : Int32) (83 : Int32) (84 : Int32) hZ = some (pkT 14) := by decide +kernel
  exact e
theorem mp15 (h : Hp) : m_pack (80 : Int32) (65 : Int32) (83 : Int32) (86 : Int32) h = some (pkT 15) := by
  have e : m_pack (80 : Int32) (65 : Int32) (83 : Int32) (86 : Int32) hZ = some (pkT 15) := by decide +kernel
  exact e
theorem mp16 (h : Hp) : m_pack (80 : Int32) (79 : Int32) (82 : Int32) (84 : Int32) h = some (pkT 16) := by
  have e : m_pack (80 : Int32) (79 : Int32) (82 : Int32) (84 : Int32) hZ = some (pkT 16) := by decide +kernel
  exact e
theorem mp17 (h : Hp) : m_pack (65 : Int32) (66 : Int32) (79 : Int32) (82 : Int32) h = some (pkT 17) := by
  have e : m_pack (65 : Int32) (66 : Int32) (79 : Int32) (82 : Int32) hZ = some (pkT 17) := by decide +kernel
  exact e
theorem mp18 (h : Hp) : m_pack (82 : Int32) (69 : Int32) (84 : Int32) (82 : Int32) h = some (pkT 18) := by
  have e : m_pack (82 : Int32) (69 : Int32) (84 : Int32) (82 : Int32) hZ = some (pkT 18) := by decide +kernel
  exact e
theorem mp19 (h : Hp) : m_pack (83 : Int32) (84 : Int32) (79 : Int32) (82 : Int32) h = some (pkT 19) := by
  have e : m_pack (83 : Int32) (84 : Int32) (79 : Int32) (82 : Int32) hZ = some (pkT 19) := by decide +kernel
  exact e
theorem mp20 (h : Hp) : m_pack (65 : Int32) (80 : Int32) (80 : Int32) (69 : Int32) h = some (pkT 20) := by
  have e : m_pack (65 : Int32) (80 : Int32) (80 : Int32) (69 : Int32) hZ = some (pkT 20) := by decide +kernel
  exact e
theorem mp21 (h : Hp) : m_pack (78 : Int32) (76 : Int32) (83 : Int32) (84 : Int32) h = some (pkT 21) := by
  have e : m_pack (78 : Int32) (76 : Int32) (83 : Int32) (84 : Int32) hZ = some (pkT 21) := by decide +kernel
  exact e
theorem cmdOf_eq (x : Int32) (h : Hp) : m_commandOf x h = some (match ffi (fun j => decide (x = pkT j)) 22 with | some k => nI (k + 1) | none => 0) := by
  by_cases H : ∃ k, k < 22 ∧ x = pkT k
  · obtain ⟨k, hk, rfl⟩ := H
    obtain ⟨e1, e2⟩ := cmdOf_in k hk
    rw [e2]
    exact e1
  · have hn : ∀ k, k < 22 → ¬ x = pkT k := fun k hk e => H ⟨k, hk, e⟩
    have e : ffi (fun j => decide (x = pkT j)) 22 = none := by
      cases q : ffi (fun j => decide (x = pkT j)) 22 with
      | none => rfl
      | some k =>
        obtain ⟨k1, k2, -⟩ := ffi_some q
        exact absurd (by simpa using k2) (hn k k1)
    rw [e]
    simp only [m_commandOf, mp0, mp1, mp2, mp3, mp4, mp5, mp6, mp7, mp8, mp9, mp10, mp11, mp12, mp13, mp14, mp15, mp16, mp17, mp18, mp19, mp20, mp21, Option.bind_some]
    rw [if_neg (hn 0 (by decide)), if_neg (hn 1 (by decide)), if_neg (hn 2 (by decide)), if_neg (hn 3 (by decide)), if_neg (hn 4 (by decide)), if_neg (hn 5 (by decide)), if_neg (hn 6 (by decide)), if_neg (hn 7 (by decide)), if_neg (hn 8 (by decide)), if_neg (hn 9 (by decide)), if_neg (hn 10 (by decide)), if_neg (hn 11 (by decide)), if_neg (hn 12 (by decide)), if_neg (hn 13 (by decide)), if_neg (hn 14 (by decide)), if_neg (hn 15 (by decide)), if_neg (hn 16 (by decide)), if_neg (hn 17 (by decide)), if_neg (hn 18 (by decide)), if_neg (hn 19 (by decide)), if_neg (hn 20 (by decide)), if_neg (hn 21 (by decide))]
    rfl
/-- the number of the command in the twin's words, and where its argument begins -/
theorem read_eq {c m : Hp} {n : Nat} (h : rLine c m n) : ∃ x fr, m_readLetters m = some (x, sI m (20, 0) 11 fr) ∧ (∀ h', m_commandOf x h' = some (match ffi (swB m n) 22 with | some k => if n = cl m n + 1 then 0 else nI (k + 1) | none => 0)) ∧ ∀ k, ffi (swB m n) 22 = some k → n ≠ cl m n + 1 → fr = (if n ≤ cl m n then -1 else nI (cl m n + 1)) := by
  obtain ⟨l1, l2, l3, l4⟩ := id h
  have hk : kl m n ≤ n := fp_le _ _
  have hc : cl m n ≤ n := fp_le _ _
  have g0 : ∀ v, gI (sI m (20, 0) 11 v) (20, 0) 9 = gI m (20, 0) 9 := fun _ => rfl
  have g1 : ∀ v, gI (sI m (20, 0) 11 v) (29, 0) (kl m n) = gI m (29, 0) (kl m n) := fun _ => rfl
  have hfr : (if nI n ≤ nI (kl m n) then some (-1 : Int32) else some (nI (kl m n) + 1)) = some (if n ≤ kl m n then (-1 : Int32) else nI (kl m n + 1)) := by
    simp only [nle (show kl m n < 2 ^ 31 by omega) (show n < 2 ^ 31 by omega), nI_1]
    by_cases a : n ≤ kl m n
    · rw [if_pos a, if_pos a]
    · rw [if_neg a, if_neg a]
  have hok : (if nI (kl m n) = nI n then some (1 : Int32) else guardB (nI (kl m n)) 32 (if gI m (29, 0) (kl m n) = (32 : Int32) then (if nI n ≤ nI (kl m n) + 1 then some (0 : Int32) else some 1) else some 0)) = some (if kl m n = n ∨ (kl m n + 1 < n ∧ chN m (kl m n) = 32) then (1 : Int32) else 0) := by
    simp only [neq (show n < 2 ^ 31 by omega) (show kl m n < 2 ^ 31 by omega)]
    by_cases a : kl m n = n
    · rw [if_pos a, if_pos (Or.inl a)]
    · have b := ch_b h (show kl m n < n by omega)
      rw [if_neg a, gB (by omega) (by decide), ch_m h (show kl m n < n by omega), nI_1]
      have e1 : (nI (chN m (kl m n)) = (32 : Int32)) = (chN m (kl m n) = 32) := neq (k := 32) (by decide) (by omega)
      simp only [e1, nle (show kl m n + 1 < 2 ^ 31 by omega) (show n < 2 ^ 31 by omega)]
      by_cases d : chN m (kl m n) = 32
      · rw [if_pos d]
        by_cases f : n ≤ kl m n + 1
        · rw [if_pos f, if_neg (by omega)]
        · rw [if_neg f, if_pos (Or.inr ⟨by omega, d⟩)]
      · rw [if_neg d, if_neg (by rintro (z | z); exact a z; exact d z.2)]
  have hx : (if (if kl m n = n ∨ (kl m n + 1 < n ∧ chN m (kl m n) = 32) then (1 : Int32) else 0) = 0 then some (0 : Int32) else if (5 : Int32) ≤ nI (kl m n) then some 0 else some (fo (gPk m) 0 (kl m n))) = some (if (kl m n = n ∨ (kl m n + 1 < n ∧ chN m (kl m n) = 32)) ∧ kl m n ≤ 4 then nI (pkN (fun j => cap (chN m j)) (kl m n)) else 0) := by
    have e5 : ((5 : Int32) ≤ nI (kl m n)) = (5 ≤ kl m n) := nle (n := 5) (by omega) (by decide)
    simp only [e5]
    by_cases a : kl m n = n ∨ (kl m n + 1 < n ∧ chN m (kl m n) = 32)
    · rw [if_pos a, if_neg (by decide)]
      by_cases b : 5 ≤ kl m n
      · rw [if_pos b, if_neg (fun z => by omega)]
      · rw [if_neg b, if_pos ⟨a, by omega⟩, pack_eq h (by omega) (by omega)]
    · rw [if_neg a, if_pos rfl, if_neg (fun z => a z.1)]
  have sk : ∀ k, ffi (swB m n) 22 = some k → k < 22 ∧ cl m n = sLen k ∧ kl m n = cl m n ∧ (∀ j, j < sLen k → cap (chN m j) = tx k j) := by
    intro k hk
    obtain ⟨k1, k2, -⟩ := ffi_some hk
    obtain ⟨s1, s2⟩ := sw_iff.mp k2
    refine ⟨k1, s1, fp_eq hc (fun j hj => ?_) (fun hj => ?_), s2⟩
    · have t := ((tx0 k k1).2.2.2 j (by omega)).2
      rw [← s2 j (by omega)] at t
      have b := ch_b h (show j < n by omega)
      rw [(cap_ltr _ (by omega) t.1 t.2).1]; rfl
    · have z := fp_at (p := fun j => decide (chN m j = 32)) (n := n) hj
      have z2 : chN m (cl m n) = 32 := by simpa [cl] using z
      show (!ltr (chN m (cl m n))) = true
      rw [z2]; rfl
  have c0 : ∀ h', m_commandOf 0 h' = some 0 := fun h' => by
    have e : m_commandOf 0 hZ = some 0 := by decide +kernel
    exact e
  refine ⟨if (kl m n = n ∨ (kl m n + 1 < n ∧ chN m (kl m n) = 32)) ∧ kl m n ≤ 4 then nI (pkN (fun j => cap (chN m j)) (kl m n)) else 0, if n ≤ kl m n then (-1 : Int32) else nI (kl m n + 1), ?_, fun h' => ?_, ?_⟩
  · unfold m_readLetters
    rw [letters_eq h, Option.bind_some, l3, hfr, Option.bind_some, g0, l3, clI (by omega), g1, hok, Option.bind_some, hx, Option.bind_some]
  · cases K : ffi (swB m n) 22 with
    | some k =>
      obtain ⟨k1, k2, k3, k4⟩ := sk k K
      obtain ⟨t1, t2, t3, t4⟩ := tx0 k k1
      show _ = some (if n = cl m n + 1 then 0 else nI (k + 1))
      by_cases a : n = cl m n + 1
      · rw [if_pos a, if_neg (by rintro ⟨z | z, -⟩ <;> omega), c0]
      · rw [if_neg a, if_pos]
        · have e : pkN (fun j => cap (chN m j)) (kl m n) = pkN (tx k) (sLen k) := by
            rw [k3, k2]
            have : ∀ q, q ≤ sLen k → pkN (fun j => cap (chN m j)) q = pkN (tx k) q := by
              intro q
              induction q with
              | zero => exact fun _ => rfl
              | succ q ih => intro hq; rw [pkN, pkN, ih (by omega), k4 q (by omega)]
            exact this _ (Nat.le_refl _)
          rw [e]
          exact (cmdOf_in k k1).1
        · refine ⟨?_, by omega⟩
          rw [k3]
          by_cases z : cl m n = n
          · exact Or.inl z
          · right
            have z1 := fp_at (p := fun j => decide (chN m j = 32)) (n := n) (show cl m n < n by omega)
            exact ⟨by omega, by simpa [cl] using z1⟩
    | none =>
      show _ = some 0
      by_cases a : (kl m n = n ∨ (kl m n + 1 < n ∧ chN m (kl m n) = 32)) ∧ kl m n ≤ 4
      · rw [if_pos a, cmdOf_eq]
        cases q : ffi (fun j => decide (nI (pkN (fun j => cap (chN m j)) (kl m n)) = pkT j)) 22 with
        | none => rfl
        | some k =>
          exfalso
          obtain ⟨k1, k2, -⟩ := ffi_some q
          obtain ⟨t1, t2, t3, t4⟩ := tx0 k k1
          have hcap : ∀ j, j < kl m n → 65 ≤ cap (chN m j) ∧ cap (chN m j) ≤ 90 := fun j hj => by
            have := ch_b h (show j < n by omega)
            exact (ltr95 _ (by omega) (kl_ltr hj)).2
          have e : nI (pkN (fun j => cap (chN m j)) (kl m n)) = nI (pkN (tx k) (sLen k)) := of_decide_eq_true k2
          have e2 := (nI_eq (pkN_lt a.2 fun j hj => (hcap j hj).2).1 (pkN_lt t3 fun j hj => (t4 j hj).2.2).1).mp e
          obtain ⟨e3, e4⟩ := pk_inj a.2 t3 hcap (fun j hj => (t4 j hj).2) e2
          have ecl : cl m n = kl m n := fp_eq hk (fun j hj => by
            have := ch_b h (show j < n by omega)
            have := (cap_ltr _ (by omega) (hcap j hj).1 (hcap j hj).2).2
            simpa using this) (fun hj => by
            have : chN m (kl m n) = 32 := by omega
            simpa using this)
          have := ffi_none K k k1
          rw [sw_iff.mpr ⟨by omega, fun j hj => e4 j (by omega)⟩] at this
          cases this
      · rw [if_neg a, c0]
  · intro k hk2 _
    rw [(sk k hk2).2.2.1]
