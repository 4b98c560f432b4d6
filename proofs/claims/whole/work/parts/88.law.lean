/-! the law's loop -/
theorem law_op {fx fm : Hp → Option (Int32 × Hp)} (hop : Op fx fm) {h : Hp} (hr : Rel h h) : ∃ r y z, fx h = some (r, y) ∧ fm y = some (r, z) ∧ Rel z z := by
  obtain ⟨r, c', m', e1, e2, e3, e4, e5⟩ := hop h h hr
  obtain ⟨r2, c2, m2, f1, f2, f3, f4, f5⟩ := hop h c' (Rel_m hr e4)
  rw [e1] at f1
  cases f1
  exact ⟨r, c', m2, e1, f2, Rel_c f3 f5⟩
theorem lim {L i : Nat} (hL : L ≤ 320) (hi : i ≤ 330) : ((nI L - (5 : Int32)) < nI i) = (L < i + 5) := by
  by_cases g : 5 ≤ L
  · rw [show (5 : Int32) = nI 5 from rfl, nI_sub g, nlt (by omega) (by omega)]
    exact propext (by omega)
  · have h1 : nI L - (5 : Int32) < nI i := by
      rw [Int32.lt_iff_toInt_lt, nI_toInt (by omega)]
      have h2 : (nI L - (5 : Int32)).toInt < 0 := by
        rcases (show L = 0 ∨ L = 1 ∨ L = 2 ∨ L = 3 ∨ L = 4 by omega) with rfl | rfl | rfl | rfl | rfl <;> decide
      omega
    exact propext ⟨fun _ => by omega, fun _ => h1⟩
theorem law_step {xs : Nat → Int32} {L i : Nat} {h : Hp} (hL : L ≤ 320) (hi : i + 5 ≤ L) (hr : Rel h h) : ∃ h', law_l18 xs L (nI i, h) = some (.inr (nI (i + 5), h')) ∧ Rel h' h' := by
  have a1 : nI i + (1 : Int32) = nI (i + 1) := nI_1 i
  have a2 : nI i + (2 : Int32) = nI (i + 2) := nI_add i 2
  have a3 : nI i + (3 : Int32) = nI (i + 3) := nI_add i 3
  have a4 : nI i + (4 : Int32) = nI (i + 4) := nI_add i 4
  have a5 : nI i + (5 : Int32) = nI (i + 5) := nI_add i 5
  have g0 : ∀ {A : Type} (o : Option A), guardB (nI i) L o = o := fun o => gB (by omega) (by omega)
  have g1 : ∀ {A : Type} (o : Option A), guardB (nI (i + 1)) L o = o := fun o => gB (by omega) (by omega)
  have g2 : ∀ {A : Type} (o : Option A), guardB (nI (i + 2)) L o = o := fun o => gB (by omega) (by omega)
  have g3 : ∀ {A : Type} (o : Option A), guardB (nI (i + 3)) L o = o := fun o => gB (by omega) (by omega)
  have g4 : ∀ {A : Type} (o : Option A), guardB (nI (i + 4)) L o = o := fun o => gB (by omega) (by omega)
  have el : ¬ ((Int32.ofNat L) - (5 : Int32)) < nI i := by
    have := lim (L := L) (i := i) hL (by omega)
    show ¬ (nI L - (5 : Int32)) < nI i
    rw [this]
    omega
  rw [law_l18, if_neg el]
  simp only [a1, a2, a3, a4, a5, g0, g1, g2, g3, g4]
  generalize (xs (nI i).toNatClampNeg) &&& (15 : Int32) = w
  generalize (xs (nI (i + 1)).toNatClampNeg) = x1
  generalize (xs (nI (i + 2)).toNatClampNeg) = x2
  generalize (xs (nI (i + 3)).toNatClampNeg) = x3
  generalize (xs (nI (i + 4)).toNatClampNeg) = x4
  by_cases w0 : w = (0 : Int32)
  · obtain ⟨r, y, z, e1, e2, e3⟩ := law_op (op_account ((x1.toInt64 <<< ((32 : Int32).toInt64 &&& 63)) ||| (x2.toInt64 &&& (4294967295 : Int64))) ((x3.toInt64 <<< ((32 : Int32).toInt64 &&& 63)) ||| (x4.toInt64 &&& (4294967295 : Int64)))) hr
    rw [if_pos w0, e1, Option.bind_some, e2, Option.bind_some, if_pos rfl]
    exact ⟨z, rfl, e3⟩
  rw [if_neg w0]
  by_cases w1 : w = (1 : Int32)
  · obtain ⟨r, y, z, e1, e2, e3⟩ := law_op (op_open) hr
    rw [if_pos w1, e1, Option.bind_some, e2, Option.bind_some, if_pos rfl]
    exact ⟨z, rfl, e3⟩
  rw [if_neg w1]
  by_cases w2 : w = (2 : Int32)
  · obtain ⟨r, y, z, e1, e2, e3⟩ := law_op (op_type (x1.toUInt32 % 65536).toInt32) hr
    rw [if_pos w2, e1, Option.bind_some, e2, Option.bind_some, if_pos rfl]
    exact ⟨z, rfl, e3⟩
  rw [if_neg w2]
  by_cases w3 : w = (3 : Int32)
  · obtain ⟨r, y, z, e1, e2, e3⟩ := law_op (op_word ((x1.toInt64 <<< ((32 : Int32).toInt64 &&& 63)) ||| (x2.toInt64 &&& (4294967295 : Int64)))) hr
    rw [if_pos w3, e1, Option.bind_some, e2, Option.bind_some, if_pos rfl]
    exact ⟨z, rfl, e3⟩
  rw [if_neg w3]
  by_cases w4 : w = (4 : Int32)
  · obtain ⟨r, y, z, e1, e2, e3⟩ := law_op (op_enter) hr
    rw [if_pos w4, e1, Option.bind_some, e2, Option.bind_some, if_pos rfl]
    exact ⟨z, rfl, e3⟩
  rw [if_neg w4]
  by_cases w5 : w = (5 : Int32)
  · obtain ⟨r, e1, e2⟩ := (op_reply) h h hr
    rw [if_pos w5, e1, Option.bind_some, e2, Option.bind_some, if_pos rfl]
    exact ⟨h, rfl, hr⟩
  rw [if_neg w5]
  by_cases w6 : w = (6 : Int32)
  · obtain ⟨r, e1, e2⟩ := (op_text x1) h h hr
    rw [if_pos w6, e1, Option.bind_some, e2, Option.bind_some, if_pos rfl]
    exact ⟨h, rfl, hr⟩
  rw [if_neg w6]
  by_cases w7 : w = (7 : Int32)
  · obtain ⟨r, y, z, e1, e2, e3⟩ := law_op (op_join) hr
    rw [if_pos w7, e1, Option.bind_some, e2, Option.bind_some, if_pos rfl]
    exact ⟨z, rfl, e3⟩
  rw [if_neg w7]
  by_cases w8 : w = (8 : Int32)
  · obtain ⟨r, y, z, e1, e2, e3⟩ := law_op (op_listen x1) hr
    rw [if_pos w8, e1, Option.bind_some, e2, Option.bind_some, if_pos rfl]
    exact ⟨z, rfl, e3⟩
  rw [if_neg w8]
  by_cases w9 : w = (9 : Int32)
  · obtain ⟨r, y, z, e1, e2, e3⟩ := law_op (op_take) hr
    rw [if_pos w9, e1, Option.bind_some, e2, Option.bind_some, if_pos rfl]
    exact ⟨z, rfl, e3⟩
  rw [if_neg w9]
  by_cases w10 : w = (10 : Int32)
  · obtain ⟨r, y, z, e1, e2, e3⟩ := law_op (op_give x1) hr
    rw [if_pos w10, e1, Option.bind_some, e2, Option.bind_some, if_pos rfl]
    exact ⟨z, rfl, e3⟩
  rw [if_neg w10]
  by_cases w11 : w = (11 : Int32)
  · obtain ⟨r, y, z, e1, e2, e3⟩ := law_op (op_end) hr
    rw [if_pos w11, e1, Option.bind_some, e2, Option.bind_some, if_pos rfl]
    exact ⟨z, rfl, e3⟩
  rw [if_neg w11]
  by_cases w12 : w = (12 : Int32)
  · obtain ⟨r, e1, e2⟩ := (op_transfer) h h hr
    rw [if_pos w12, e1, Option.bind_some, e2, Option.bind_some, if_pos rfl]
    exact ⟨h, rfl, hr⟩
  rw [if_neg w12]
  by_cases w13 : w = (13 : Int32)
  · obtain ⟨r, e1, e2⟩ := (op_nodes) h h hr
    rw [if_pos w13, e1, Option.bind_some, e2, Option.bind_some, if_pos rfl]
    exact ⟨h, rfl, hr⟩
  rw [if_neg w13]
  by_cases w14 : w = (14 : Int32)
  · obtain ⟨r, e1, e2⟩ := (op_bytes) h h hr
    rw [if_pos w14, e1, Option.bind_some, e2, Option.bind_some, if_pos rfl]
    exact ⟨h, rfl, hr⟩
  rw [if_neg w14]
  exact ⟨h, rfl, hr⟩
