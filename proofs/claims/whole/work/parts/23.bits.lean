/-! pasted from kit/laws/BITS.to-paste (the family wb_) -/
theorem wb_tb (n : Nat) : (lN n).toBitVec = BitVec.ofNat 64 n := rfl
theorem wb_inj {a b : Int64} (h : a.toBitVec = b.toBitVec) : a = b := Int64.toBitVec_inj.mp h
theorem wb_tn {n : Nat} (h : n < 2 ^ 64) : (lN n).toBitVec.toNat = n := by rw [wb_tb, BitVec.toNat_ofNat, Nat.mod_eq_of_lt h]
theorem wb_of (x : Int64) : ∃ n, n < 2 ^ 64 ∧ x = lN n := ⟨x.toBitVec.toNat, x.toBitVec.isLt, wb_inj (by rw [wb_tb]; simp)⟩
theorem wb_of32 (x : Int32) : ∃ n, n < 2 ^ 32 ∧ x = nI n := ⟨x.toBitVec.toNat, x.toBitVec.isLt, Int32.toBitVec_inj.mp (by show _ = BitVec.ofNat 32 _; simp)⟩
theorem wb_c : ∀ k, k < 64 → ((nI k).toInt64 &&& 63) = lN k := by decide +kernel
theorem wb_cu : ∀ k, k < 64 → ((nI k).toInt64.toUInt64 &&& Int64.toUInt64 63) = UInt64.ofNat k := by decide +kernel
theorem wb_sm : ∀ k, k < 64 → (BitVec.ofNat 64 k).smod 64 = BitVec.ofNat 64 k := by decide +kernel
theorem wb_pw {a b : Nat} (h : a ≤ b) : 2 ^ b = 2 ^ a * 2 ^ (b - a) := by rw [← Nat.pow_add]; congr 1; omega
theorem wb_lt2 {a b : Nat} (h : a < b) : 2 ^ a < 2 ^ b := Nat.pow_lt_pow_right (by decide) h
theorem wb_mod (n : Nat) : lN n = lN (n % 2 ^ 64) := wb_inj (by rw [wb_tb, wb_tb]; apply BitVec.eq_of_toNat_eq; rw [BitVec.toNat_ofNat, BitVec.toNat_ofNat, Nat.mod_mod])
theorem wb_shr {n k : Nat} (hn : n < 2 ^ 64) (hk : k < 64) : ((lN n).toUInt64 >>> ((nI k).toInt64.toUInt64 &&& Int64.toUInt64 63)).toInt64 = lN (n / 2 ^ k) := by
  rw [wb_cu k hk]
  apply wb_inj
  apply BitVec.eq_of_toNat_eq
  show ((lN n).toUInt64 >>> UInt64.ofNat k).toNat = (BitVec.ofNat 64 _).toNat
  have h1 : (UInt64.ofNat k).toNat = k := by
    show (BitVec.ofNat 64 k).toNat = k
    rw [BitVec.toNat_ofNat, Nat.mod_eq_of_lt (by omega)]
  have h2 : (lN n).toUInt64.toNat = n := wb_tn hn
  rw [UInt64.toNat_shiftRight, h1, h2, Nat.mod_eq_of_lt hk, Nat.shiftRight_eq_div_pow, BitVec.toNat_ofNat, Nat.mod_eq_of_lt (Nat.lt_of_le_of_lt (Nat.div_le_self _ _) hn)]
theorem wb_shl (n : Nat) {k : Nat} (hk : k < 64) : lN n <<< ((nI k).toInt64 &&& 63) = lN (n * 2 ^ k) := by
  rw [wb_c k hk]
  apply wb_inj
  rw [Int64.toBitVec_shiftLeft, wb_tb, wb_tb, wb_tb, wb_sm k hk]
  apply BitVec.eq_of_toNat_eq
  rw [BitVec.shiftLeft_eq', BitVec.toNat_shiftLeft, BitVec.toNat_ofNat, BitVec.toNat_ofNat, BitVec.toNat_ofNat, Nat.mod_eq_of_lt (show k < 2 ^ 64 by omega), Nat.shiftLeft_eq, Nat.mul_mod, Nat.mod_mod, ← Nat.mul_mod]
theorem wb_and {a b : Nat} (ha : a < 2 ^ 64) (hb : b < 2 ^ 64) : lN a &&& lN b = lN (a &&& b) := by
  apply wb_inj
  rw [Int64.toBitVec_and, wb_tb, wb_tb, wb_tb]
  apply BitVec.eq_of_toNat_eq
  rw [BitVec.toNat_and, BitVec.toNat_ofNat, BitVec.toNat_ofNat, BitVec.toNat_ofNat, Nat.mod_eq_of_lt ha, Nat.mod_eq_of_lt hb, Nat.mod_eq_of_lt (Nat.and_lt_two_pow _ hb)]
theorem wb_or {a b : Nat} (ha : a < 2 ^ 64) (hb : b < 2 ^ 64) : lN a ||| lN b = lN (a ||| b) := by
  apply wb_inj
  rw [Int64.toBitVec_or, wb_tb, wb_tb, wb_tb]
  apply BitVec.eq_of_toNat_eq
  rw [BitVec.toNat_or, BitVec.toNat_ofNat, BitVec.toNat_ofNat, BitVec.toNat_ofNat, Nat.mod_eq_of_lt ha, Nat.mod_eq_of_lt hb, Nat.mod_eq_of_lt (Nat.or_lt_two_pow ha hb)]
theorem wb_mask {n k : Nat} (hn : n < 2 ^ 64) (hk : k < 64) : lN n &&& lN (2 ^ k - 1) = lN (n % 2 ^ k) := by
  rw [wb_and hn (by have := wb_lt2 hk; omega), Nat.and_two_pow_sub_one_eq_mod]
theorem wb_a1 {n : Nat} (hn : n < 2 ^ 64) : lN n &&& 1 = lN (n % 2) := wb_mask (k := 1) hn (by decide)
/-! bytes of a long -/
theorem m8 (k : Nat) : (8 : Int32) * nI k = nI (8 * k) := (Int32.ofNat_mul 8 k).symm
theorem wb_sar {w k : Nat} (hk : k ≤ 56) : (lN w >>> ((nI k).toInt64 &&& 63)) &&& (255 : Int64) = lN (w / 2 ^ k % 256) := by
  rw [wb_c k (by omega)]
  apply wb_inj
  rw [Int64.toBitVec_and, Int64.toBitVec_shiftRight, wb_tb, wb_tb, wb_tb, wb_sm k (by omega)]
  show (BitVec.ofNat 64 w).sshiftRight (BitVec.ofNat 64 k).toNat &&& BitVec.ofNat 64 (2 ^ 8 - 1) = _
  rw [BitVec.toNat_ofNat, Nat.mod_eq_of_lt (show k < 2 ^ 64 by omega), show (256 : Nat) = 2 ^ 8 from rfl]
  apply BitVec.eq_of_getLsbD_eq
  intro i hi
  rw [BitVec.getLsbD_and, BitVec.getLsbD_sshiftRight, BitVec.getLsbD_ofNat, BitVec.getLsbD_ofNat, BitVec.getLsbD_ofNat, Nat.testBit_mod_two_pow, Nat.testBit_div_two_pow, Nat.testBit_two_pow_sub_one]
  by_cases h8 : i < 8
  · have h1 : k + i < 64 := by omega
    simp [h8, hi, h1, Nat.add_comm, show ¬ 64 ≤ i by omega, show i + k < 64 by omega]
  · simp [h8]
theorem byC {w k : Nat} (hw : w < 2 ^ 64) (hk : k < 8) : ((lN w).toUInt64 >>> (((8 : Int32) * nI k).toInt64.toUInt64 &&& Int64.toUInt64 63)).toInt64 &&& (255 : Int64) = lN (w / 2 ^ (8 * k) % 256) := by
  rw [m8, wb_shr hw (by omega)]
  exact wb_mask (k := 8) (Nat.lt_of_le_of_lt (Nat.div_le_self _ _) hw) (by omega)
theorem byM {w k : Nat} (hk : k < 8) : (lN w >>> (((8 : Int32) * nI k).toInt64 &&& 63)) &&& (255 : Int64) = lN (w / 2 ^ (8 * k) % 256) := by
  rw [m8, wb_sar (by omega)]
theorem s5 : ∀ k, k < 6 → (5 : Int32) - nI k = nI (5 - k) := by decide +kernel
/-- a byte set behind those that stand, from the highest -/
theorem orH {s b k : Nat} (hk : k < 6) (hb : b < 256) (hs : 2 ^ (48 - 8 * k) ∣ s) (hs2 : s < 2 ^ 48) : lN s ||| ((nI b).toInt64 <<< (((8 : Int32) * ((5 : Int32) - nI k)).toInt64 &&& 63)) = lN (s + b * 2 ^ (40 - 8 * k)) := by
  rw [s5 k hk, m8, nI_l (by omega), wb_shl b (by omega), show 8 * (5 - k) = 40 - 8 * k by omega]
  have h1 : b * 2 ^ (40 - 8 * k) < 2 ^ (48 - 8 * k) := by
    rw [show 48 - 8 * k = 8 + (40 - 8 * k) by omega, Nat.pow_add]
    exact Nat.mul_lt_mul_of_pos_right hb (Nat.two_pow_pos _)
  have h2 : 2 ^ (48 - 8 * k) ≤ 2 ^ 48 := Nat.pow_le_pow_right (by omega) (by omega)
  rw [wb_or (by omega) (by omega)]
  obtain ⟨q, rfl⟩ := hs
  rw [Nat.two_pow_add_eq_or_of_lt h1]
theorem adH {s b k : Nat} (hk : k < 6) : lN s + (lN b <<< (((8 : Int32) * ((5 : Int32) - nI k)).toInt64 &&& 63)) = lN (s + b * 2 ^ (40 - 8 * k)) := by
  rw [s5 k hk, m8, wb_shl b (by omega), show 8 * (5 - k) = 40 - 8 * k by omega, lN_add]
/-- a byte set behind those that stand, from the lowest -/
theorem orL {s b k : Nat} (hk : k < 7) (hb : b < 256) (hs : s < 2 ^ (8 * k)) : lN s ||| ((nI b).toInt64 <<< ((nI (8 * k)).toInt64 &&& 63)) = lN (b * 2 ^ (8 * k) + s) := by
  rw [nI_l (by omega), wb_shl b (by omega)]
  have h0 : 2 ^ (8 * k) ≤ 2 ^ 48 := Nat.pow_le_pow_right (by omega) (by omega)
  have h1 : b * 2 ^ (8 * k) < 2 ^ 56 := by
    calc b * 2 ^ (8 * k) < 256 * 2 ^ (8 * k) := Nat.mul_lt_mul_of_pos_right hb (Nat.two_pow_pos _)
      _ ≤ 256 * 2 ^ 48 := Nat.mul_le_mul_left _ h0
      _ = 2 ^ 56 := by decide
  rw [wb_or (by omega) (by omega), Nat.or_comm, Nat.mul_comm, Nat.two_pow_add_eq_or_of_lt hs]
theorem lN_inj {a b : Nat} (ha : a < 2 ^ 64) (hb : b < 2 ^ 64) : lN a = lN b ↔ a = b := by
  constructor
  · intro h
    have h1 := wb_tn ha
    rw [h, wb_tn hb] at h1
    exact h1.symm
  · exact fun h => by rw [h]
