/-! numbers in the line, and the port -/
def dgt (a : Nat) : Bool := decide (48 ≤ a) && decide (a ≤ 57)
theorem dgt_iff {a : Nat} : dgt a = true ↔ 48 ≤ a ∧ a ≤ 57 := by
  unfold dgt
  rw [Bool.and_eq_true, decide_eq_true_eq, decide_eq_true_eq]
def dv (b : Nat → Nat) : Nat → Nat
  | 0 => 0
  | k + 1 => dv b k * 10 + (b k - 48)
def ad (b : Nat → Nat) (L : Nat) : Prop := ∀ j, j < L → dgt (b j) = true
theorem dv_lt {b : Nat → Nat} : ∀ {n : Nat}, ad b n → dv b n < 10 ^ n
  | 0, _ => by rw [dv]; decide
  | n + 1, h => by
    have h1 := dv_lt (n := n) fun j hj => h j (by omega)
    have h2 := dgt_iff.mp (h n (by omega))
    rw [dv, Nat.pow_succ]
    omega
theorem dv_lt3 {b : Nat → Nat} {n : Nat} (hn : n ≤ 3) (h : ad b n) : dv b n < 1000 := Nat.lt_of_lt_of_le (dv_lt h) (Nat.pow_le_pow_right (n := 10) (by decide) hn)
def nOK (m : Hp) (s L : Nat) : Prop := 1 ≤ L ∧ L ≤ 3 ∧ ad (chs m s) L
theorem m1ne {a : Nat} (h : a < 2 ^ 31) : nI a ≠ -1 := fun z => by
  have z' := congrArg Int32.toInt z
  rw [nI_toInt h] at z'
  have : (-1 : Int32).toInt = -1 := rfl
  omega
theorem number_eq {c m : Hp} {n s e : Nat} (h : rLine c m n) (hs : s < 2 ^ 30) (he : e ≤ n) : ∃ x, line_number (nI s) (nI e) c = some x ∧ ((nOK m s (e - s) ∧ x = nI (dv (chs m s) (e - s))) ∨ (¬ nOK m s (e - s) ∧ x = -1)) := by
  obtain ⟨l1, l2, l3, l4⟩ := id h
  rw [line_number]
  simp only [nle (show s < 2 ^ 31 by omega) (show e < 2 ^ 31 by omega)]
  by_cases a : e ≤ s
  · rw [if_pos a]
    exact ⟨_, rfl, Or.inr ⟨fun z => by have := z.1; omega, rfl⟩⟩
  · rw [if_neg a]
    have e1 : (nI (e - s) ≤ (3 : Int32)) = (e - s ≤ 3) := nle (k := 3) (by decide) (by omega)
    simp only [nI_sub (show s ≤ e by omega), e1]
    by_cases b : e - s ≤ 3
    · rw [if_pos b]
      have key : ∃ x, iter (line_number_l19 (nI e) c) FU ((0 : Int32), nI s) = some x ∧ ∃ y, (x.elim (fun r => some r) fun u => some u.1) = some y ∧ ((ad (chs m s) (e - s) ∧ y = nI (dv (chs m s) (e - s))) ∨ (¬ ad (chs m s) (e - s) ∧ y = -1)) := by
        refine iterN (P := fun q st => ∃ k, k + q = e - s ∧ ad (chs m s) k ∧ st = (nI (dv (chs m s) k), nI (s + k))) ?_ FU (e - s) _ ⟨0, by omega, fun j hj => by omega, rfl⟩ (by show e - s < 1000; omega)
        rintro q st ⟨k, e2, hk, rfl⟩
        rw [line_number_l19]
        by_cases g : e ≤ s + k
        · left
          rw [if_pos (by rw [nle (by omega) (by omega)]; omega)]
          refine ⟨_, rfl, _, rfl, Or.inl ?_⟩
          rw [show e - s = k by omega]
          exact ⟨hk, rfl⟩
        · have b := ch_b h (show s + k < n by omega)
          rw [if_neg (by rw [nle (by omega) (by omega)]; omega), line_at_in h (by omega), Option.bind_some, show chN m (s + k) = chs m s k from rfl]
          have b' : 32 ≤ chs m s k ∧ chs m s k ≤ 126 := b
          have e3 : (nI (chs m s k) < (48 : Int32)) = (chs m s k < 48) := nlt (k := 48) (by decide) (by omega)
          have e4 : (nI (chs m s k) ≤ (57 : Int32)) = (chs m s k ≤ 57) := nle (k := 57) (by decide) (by omega)
          simp only [e3, e4]
          by_cases d : dgt (chs m s k) = true
          · right
            have d' := dgt_iff.mp d
            have hv := dv_lt3 (by omega) hk
            rw [if_neg (by omega), if_pos (by omega), show (10 : Int32) = nI 10 from rfl, show (48 : Int32) = nI 48 from rfl, nI_mul, nI_add, nI_sub (by omega), nI_1]
            refine ⟨_, q - 1, by omega, rfl, k + 1, by omega, fun j hj => ?_, ?_⟩
            · by_cases z : j = k
              · rw [z]; exact d
              · exact hk j (by omega)
            · rw [dv, show dv (chs m s) k * 10 + chs m s k - 48 = dv (chs m s) k * 10 + (chs m s k - 48) by omega]; rfl
          · left
            have nd' : ¬ ad (chs m s) (e - s) := fun z => d (z k (by omega))
            have d' : ¬ (48 ≤ chs m s k ∧ chs m s k ≤ 57) := fun z => d (dgt_iff.mpr z)
            refine ⟨.inl (-1), ?_, _, rfl, Or.inr ⟨nd', rfl⟩⟩
            by_cases w : chs m s k < 48
            · rw [if_pos w]
            · rw [if_neg w, if_neg (by omega)]
      obtain ⟨x, f1, y, f2, f3⟩ := key
      refine ⟨y, by rw [f1, Option.bind_some]; exact f2, ?_⟩
      rcases f3 with ⟨f4, f5⟩ | ⟨f4, f5⟩
      · exact Or.inl ⟨⟨by omega, b, f4⟩, f5⟩
      · exact Or.inr ⟨fun z => f4 z.2.2, f5⟩
    · rw [if_neg b]
      exact ⟨_, rfl, Or.inr ⟨fun z => b z.2.1, rfl⟩⟩
theorem mDigit_eq {c m : Hp} {n p : Nat} (h : rLine c m n) (hp : p < 2 ^ 30) : m_isDigit (nI p) m = some (if p < n ∧ dgt (chN m p) = true then 1 else 0) := by
  obtain ⟨l1, l2, l3, l4⟩ := id h
  rw [m_isDigit, l3]
  simp only [nle (show p < 2 ^ 31 by omega) (show n < 2 ^ 31 by omega)]
  by_cases a : n ≤ p
  · rw [if_pos a, if_neg (by omega)]; rfl
  · have b := ch_b h (show p < n by omega)
    rw [if_neg a, gB (by omega) (by decide), gB (by omega) (by decide), clI (by omega), ch_m h (by omega)]
    have e3 : (nI (chN m p) < (48 : Int32)) = (chN m p < 48) := nlt (k := 48) (by decide) (by omega)
    have e4 : ((57 : Int32) < nI (chN m p)) = (57 < chN m p) := nlt (n := 57) (by omega) (by decide)
    simp only [e3, e4, dgt_iff]
    by_cases d : chN m p < 48
    · rw [if_pos d, if_neg (by omega)]; rfl
    · rw [if_neg d]
      by_cases f : 57 < chN m p
      · rw [if_pos f, if_neg (by omega)]; rfl
      · rw [if_neg f, if_pos (by omega)]; rfl
def dl (m : Hp) (n s : Nat) : Nat := fp (fun j => !dgt (chs m s j)) (n - s)
theorem digits_eq {c m : Hp} {n s : Nat} (h : rLine c m n) (hs : s ≤ n) : m_digitsFrom (nI s) m = some (nI (dl m n s)) := by
  obtain ⟨l1, l2, l3, l4⟩ := id h
  have e := iter_find0 (f := m_digitsFrom_l2 (nI s) m) (n := n - s) (fun j => !dgt (chs m s j)) (fun k => nI k) (nI (n - s)) (by omega) (fun k hk => by
    rw [m_digitsFrom_l2, nI_add, mDigit_eq h (by omega), Option.bind_some, show chN m (s + k) = chs m s k from rfl]
    cases d : dgt (chs m s k) with
    | true =>
      have e1 : (if s + k < n ∧ true = true then (1 : Int32) else 0) = 1 := if_pos ⟨by omega, rfl⟩
      rw [e1, if_neg (by decide), nI_1]; rfl
    | false =>
      have e1 : (if s + k < n ∧ false = true then (1 : Int32) else 0) = 0 := if_neg (fun z => absurd z.2 (by decide))
      rw [e1, if_pos rfl]; rfl) (by
    have e1 : (if s + (n - s) < n ∧ dgt (chN m (s + (n - s))) = true then (1 : Int32) else 0) = 0 := if_neg (fun z => by have := z.1; omega)
    rw [m_digitsFrom_l2, nI_add, mDigit_eq h (by omega), Option.bind_some, e1, if_pos rfl])
  rw [m_digitsFrom, e, Option.bind_some]
  unfold dl fp
  cases ffi (fun j => !dgt (chs m s j)) (n - s) <;> rfl
theorem dl_le (m : Hp) (n s : Nat) : dl m n s ≤ n - s := fp_le _ _
theorem dl_ad (m : Hp) (n s : Nat) : ad (chs m s) (dl m n s) := fun j hj => by
  have := fp_lt (p := fun j => !dgt (chs m s j)) hj
  simpa using this
theorem dl_of {m : Hp} {n s L : Nat} (h : ad (chs m s) L) (hL : L ≤ n - s) (h2 : s + L < n → dgt (chN m (s + L)) = false) : dl m n s = L := fp_eq hL (fun j hj => by rw [h j hj]; rfl) (fun hj => by
  have := h2 (by omega)
  show (!dgt (chs m s L)) = true
  rw [show chs m s L = chN m (s + L) from rfl, this]; rfl)
theorem mnum_eq {c m : Hp} {n s k : Nat} (h : rLine c m n) (hk : s + k ≤ n) (h3 : k ≤ 3) (hd : ad (chs m s) k) : m_numberAt (nI s) (nI k) m = some (nI (dv (chs m s) k)) := by
  obtain ⟨l1, l2, l3, l4⟩ := id h
  have e := iter_rng0 (f := m_numberAt_l5 (nI s) (nI k) m) (fun j _ => nI (dv (chs m s) (j + 1))) (0 : Int32) s k (fun x => (x, nI (s + k))) (fun j x => x = nI (dv (chs m s) j)) rfl (by omega) (fun j x hj hx => by
    subst hx
    refine ⟨?_, rfl⟩
    have b := ch_b h (show s + j < n by omega)
    have d := dgt_iff.mp (hd j hj)
    have d' : 48 ≤ chN m (s + j) ∧ chN m (s + j) ≤ 57 := d
    have hv := dv_lt3 (n := j) (by omega) (fun i hi => hd i (by omega))
    rw [m_numberAt_l5, nI_add, if_neg (by rw [nle (by omega) (by omega)]; omega), gB (by omega) (by decide), clI (by omega), ch_m h (by omega), show (10 : Int32) = nI 10 from rfl, show (48 : Int32) = nI 48 from rfl, nI_mul, nI_add, nI_sub (by omega), nI_1, dv, show 10 * dv (chs m s) j + chN m (s + j) - 48 = dv (chs m s) j * 10 + (chs m s j - 48) by
      show _ = dv (chs m s) j * 10 + (chN m (s + j) - 48)
      omega]
    rfl) (fun x hx => by
    rw [m_numberAt_l5, nI_add, if_pos (by rw [nle (by omega) (by omega)]; omega)])
  rw [m_numberAt, e, Option.bind_some]
  cases k with
  | zero => rfl
  | succ k => rfl
/-- the next comma from q on, or n -/
def nc (m : Hp) (n q : Nat) : Nat := q + fp (fun j => decide (chs m q j = 44)) (n - q)
def PT (m : Hp) (n : Nat) : Nat → Nat → Nat → Nat → Int32
  | 0, _, i, v => if i = 6 then nI v else -1
  | f + 1, q, i, v => if n < q then (if i = 6 then nI v else -1) else if ffi (fun j => !dgt (chs m q j)) (nc m n q - q) = none ∧ 1 ≤ nc m n q - q ∧ nc m n q - q ≤ 3 ∧ dv (chs m q) (nc m n q - q) ≤ 255 then PT m n f (nc m n q + 1) (i + 1) ((v * 256 + dv (chs m q) (nc m n q - q)) % 65536) else -1
theorem ffi_ad {b : Nat → Nat} {L : Nat} : ffi (fun j => !dgt (b j)) L = none ↔ ad b L := by
  constructor
  · intro h j hj
    have := ffi_none h j hj
    simpa using this
  · intro h
    cases e : ffi (fun j => !dgt (b j)) L with
    | none => rfl
    | some x =>
      obtain ⟨x1, x2, -⟩ := ffi_some e
      rw [h x x1] at x2
      cases x2
theorem PT_end {m : Hp} {n f q i v : Nat} (h : n < q) : PT m n f q i v = if i = 6 then nI v else -1 := by
  cases f with
  | zero => rfl
  | succ f => rw [PT, if_pos h]
theorem PT_ok {m : Hp} {n f q i v : Nat} (h : q ≤ n) (ok : nOK m q (nc m n q - q)) (h5 : dv (chs m q) (nc m n q - q) ≤ 255) : PT m n (f + 1) q i v = PT m n f (nc m n q + 1) (i + 1) ((v * 256 + dv (chs m q) (nc m n q - q)) % 65536) := by
  rw [PT, if_neg (by omega), if_pos ⟨ffi_ad.mpr ok.2.2, ok.1, ok.2.1, h5⟩]
theorem PT_no {m : Hp} {n f q i v : Nat} (h : q ≤ n) (ok : ¬ (nOK m q (nc m n q - q) ∧ dv (chs m q) (nc m n q - q) ≤ 255)) : PT m n (f + 1) q i v = -1 := by
  rw [PT, if_neg (by omega), if_neg]
  rintro ⟨a, b, d, e⟩
  exact ok ⟨⟨b, d, ffi_ad.mp a⟩, e⟩
theorem nc_le {m : Hp} {n q : Nat} (h : q ≤ n) : q ≤ nc m n q ∧ nc m n q ≤ n := by
  have := fp_le (fun j => decide (chs m q j = 44)) (n - q)
  unfold nc
  omega
theorem PT_big {m : Hp} {n : Nat} : ∀ {f q i v : Nat}, q ≤ n → 6 ≤ i → n + 1 ≤ f + q → PT m n f q i v = -1
  | 0, q, i, v, h1, _, h3 => by omega
  | f + 1, q, i, v, h1, h2, h3 => by
    by_cases ok : nOK m q (nc m n q - q) ∧ dv (chs m q) (nc m n q - q) ≤ 255
    · obtain ⟨g1, g2⟩ := nc_le (m := m) h1
      rw [PT_ok h1 ok.1 ok.2]
      by_cases e : nc m n q = n
      · rw [PT_end (by omega), if_neg (by omega)]
      · exact PT_big (by omega) (by omega) (by omega)
    · exact PT_no h1 ok
theorem nc_at {m : Hp} {n q : Nat} (h : nc m n q < n) (hq : q ≤ n) : chN m (nc m n q) = 44 := by
  have := fp_at (p := fun j => decide (chs m q j = 44)) (n := n - q) (by unfold nc at h; omega)
  exact of_decide_eq_true this
theorem nc_dl {m : Hp} {n q : Nat} (hq : q ≤ n) (ok : nOK m q (nc m n q - q)) : dl m n q = nc m n q - q := by
  obtain ⟨g1, g2⟩ := nc_le (m := m) hq
  refine dl_of ok.2.2 (by omega) fun hl => ?_
  rw [show q + (nc m n q - q) = nc m n q by omega, nc_at (by omega) hq]; rfl
theorem dl_nc {m : Hp} {n q : Nat} (hq : q ≤ n) (h : q + dl m n q = n ∨ chN m (q + dl m n q) = 44) : nc m n q = q + dl m n q := by
  have h1 := dl_le m n q
  have : fp (fun j => decide (chs m q j = 44)) (n - q) = dl m n q := fp_eq h1 (fun j hj => by
    have := dgt_iff.mp (dl_ad m n q j hj)
    exact decide_eq_false (by omega)) (fun hj => by
    rcases h with h | h
    · omega
    · exact decide_eq_true h)
  unfold nc
  rw [this]
theorem nI_and16 {a : Nat} (ha : a < 2 ^ 31) : nI a &&& (65535 : Int32) = nI (a % 65536) := by
  rw [show (65535 : Int32) = nI 65535 from rfl]
  apply Int32.toBitVec_inj.mp
  rw [Int32.toBitVec_and]
  show BitVec.ofNat 32 a &&& BitVec.ofNat 32 65535 = BitVec.ofNat 32 (a % 65536)
  apply BitVec.eq_of_toNat_eq
  rw [BitVec.toNat_and, BitVec.toNat_ofNat, BitVec.toNat_ofNat, BitVec.toNat_ofNat, Nat.mod_eq_of_lt (show a < 2 ^ 32 by omega)]
  exact (Nat.and_two_pow_sub_one_eq_mod a 16).trans (Nat.mod_eq_of_lt (by omega)).symm
theorem port_c {c m : Hp} {n q : Nat} (h : rLine c m n) (hq : q ≤ n) : ∃ x, iter (line_argumentPort_l12 c) FU ((0 : Int32), (0 : Int32), nI q, nI q) = some x ∧ (x.elim (fun r => some r) fun u => (if u.2.1 = (6 : Int32) then some u.1 else some (-1 : Int32)).bind fun t => some t) = some (PT m n 40 q 0 0) := by
  obtain ⟨l1, l2, l3, l4⟩ := id h
  refine iterN (P := fun w st => ∃ v i a p f, st = (nI v, nI i, nI a, nI p) ∧ p + w = n + 1 ∧ a ≤ p ∧ p ≤ n + 1 ∧ (p ≤ n → p ≤ nc m n a) ∧ (p = n + 1 → a = n + 1) ∧ v < 65536 ∧ i ≤ p ∧ n + 1 ≤ f + a ∧ PT m n f a i v = PT m n 40 q 0 0) ?_ FU (n + 1 - q) _ ⟨0, 0, q, q, 40, rfl, by omega, by omega, by omega, fun _ => (nc_le hq).1, by omega, by decide, by omega, by omega, rfl⟩ (by show n + 1 - q < 1000; omega)
  rintro w st ⟨v, i, a, p, f, rfl, h1, h2, h3, h4, h5, h6, h7, h8, h9⟩
  rw [line_argumentPort_l12, l2]
  by_cases g : n < p
  · left
    rw [if_pos (by rw [nlt (by omega) (by omega)]; omega)]
    refine ⟨_, rfl, ?_⟩
    rw [← h9, PT_end (by omega)]
    have e6 : (nI i = (6 : Int32)) = (i = 6) := neq (k := 6) (by decide) (by omega)
    show (if nI i = (6 : Int32) then some (nI v) else some (-1 : Int32)).bind (fun t => some t) = _
    simp only [e6]
    by_cases z : i = 6
    · rw [if_pos z, if_pos z]; rfl
    · rw [if_neg z, if_neg z]; rfl
  · rw [if_neg (by rw [nlt (by omega) (by omega)]; omega)]
    have ha : a ≤ n := by omega
    obtain ⟨f, rfl⟩ : ∃ k, f = k + 1 := ⟨f - 1, by omega⟩
    have j41 : p = nc m n a → (∃ x, line_argumentPort_j41 (nI v) (nI i) (nI a) (nI p) c = some (.inl x) ∧ (x.elim (fun r => some r) fun u => (if u.2.1 = (6 : Int32) then some u.1 else some (-1 : Int32)).bind fun t => some t) = some (PT m n 40 q 0 0)) ∨ ∃ s' k', k' < w ∧ line_argumentPort_j41 (nI v) (nI i) (nI a) (nI p) c = some (.inr s') ∧ ∃ v i a p f, s' = (nI v, nI i, nI a, nI p) ∧ p + k' = n + 1 ∧ a ≤ p ∧ p ≤ n + 1 ∧ (p ≤ n → p ≤ nc m n a) ∧ (p = n + 1 → a = n + 1) ∧ v < 65536 ∧ i ≤ p ∧ n + 1 ≤ f + a ∧ PT m n f a i v = PT m n 40 q 0 0 := by
      intro hp
      unfold line_argumentPort_j41
      obtain ⟨x, e1, e2⟩ := number_eq h (show a < 2 ^ 30 by omega) (show p ≤ n by omega)
      rw [e1, Option.bind_some]
      rw [hp] at e2
      rcases e2 with ⟨ok, rfl⟩ | ⟨nok, rfl⟩
      · have hv := dv_lt3 ok.2.1 ok.2.2
        rw [if_neg (m1ne (by omega))]
        have e5 : (nI (dv (chs m a) (nc m n a - a)) ≤ (255 : Int32)) = (dv (chs m a) (nc m n a - a) ≤ 255) := nle (k := 255) (by decide) (by omega)
        simp only [e5]
        by_cases z : dv (chs m a) (nc m n a - a) ≤ 255
        · right
          rw [if_pos z, pk8 (by omega) (by omega), nI_and16 (by omega), nI_1, nI_1]
          refine ⟨_, w - 1, by omega, rfl, _, _, _, _, f, rfl, by omega, by omega, by omega, fun hh => (nc_le hh).1, fun hh => hh, Nat.mod_lt _ (by decide), by omega, by omega, ?_⟩
          rw [← h9, PT_ok ha ok z, hp]
        · left
          rw [if_neg z]
          exact ⟨.inl (-1), rfl, by rw [← h9, PT_no ha (fun y => z y.2)]; rfl⟩
      · left
        rw [if_pos rfl]
        exact ⟨.inl (-1), rfl, by rw [← h9, PT_no ha (fun y => nok y.1)]; rfl⟩
    by_cases hn : p = n
    · rw [if_pos (by rw [hn])]
      refine j41 ?_
      have := nc_le (m := m) ha
      have := h4 (by omega)
      omega
    · have b := ch_b h (show p < n by omega)
      rw [if_neg (by rw [neq (by omega) (by omega)]; exact hn), line_at_in h (by omega), Option.bind_some]
      have e6 : (nI (chN m p) = (44 : Int32)) = (chN m p = 44) := neq (k := 44) (by decide) (by omega)
      simp only [e6]
      have h4' := h4 (by omega)
      by_cases z : chN m p = 44
      · rw [if_pos z]
        refine j41 ?_
        by_cases y : p < nc m n a
        · have := fp_lt (p := fun j => decide (chs m a j = 44)) (n := n - a) (j := p - a) (by unfold nc at y; omega)
          have y2 : ¬ chN m (a + (p - a)) = 44 := of_decide_eq_false this
          rw [show a + (p - a) = p by omega] at y2
          exact absurd z y2
        · omega
      · right
        rw [if_neg z, nI_1]
        refine ⟨_, w - 1, by omega, rfl, v, i, a, p + 1, f + 1, rfl, by omega, by omega, by omega, fun _ => ?_, by omega, h6, by omega, h8, h9⟩
        by_cases y : p = nc m n a
        · exact absurd (by rw [y]; exact nc_at (by omega) ha) z
        · omega
theorem port_m {c m : Hp} {n q : Nat} (h : rLine c m n) (hq : q ≤ n) : ∃ x, iter (m_portTold_l9 m) FU (nI q, (0 : Int32), (0 : Int32)) = some x ∧ (x.elim (fun r => some r) fun u => some u.2.1) = some (PT m n 40 q 0 0) := by
  obtain ⟨l1, l2, l3, l4⟩ := id h
  refine iterN (P := fun w st => ∃ v i a f, st = (nI a, nI v, nI i) ∧ i + w = 6 ∧ (i < 6 → a ≤ n) ∧ (i = 6 → a = n + 1) ∧ v < 65536 ∧ n + 1 ≤ f + a ∧ PT m n f a i v = PT m n 40 q 0 0) ?_ FU 6 _ ⟨0, 0, q, 40, rfl, by omega, by omega, by omega, by decide, by omega, rfl⟩ (by decide)
  rintro w st ⟨v, i, a, f, rfl, h1, h2, h3, h6, h8, h9⟩
  rw [m_portTold_l9]
  by_cases g : i = 6
  · left
    rw [if_pos (by rw [g]; decide)]
    refine ⟨_, rfl, ?_⟩
    rw [← h9, PT_end (by omega), if_pos g]; rfl
  · have ha := h2 (by omega)
    have hd := dl_le m n a
    have had := dl_ad m n a
    obtain ⟨f, rfl⟩ : ∃ k, f = k + 1 := ⟨f - 1, by omega⟩
    rw [if_neg (by rw [show (6 : Int32) = nI 6 from rfl, nle (by omega) (by omega)]; omega), digits_eq h ha, Option.bind_some]
    have e1 : (nI (dl m n a) < (1 : Int32)) = (dl m n a < 1) := nlt (k := 1) (by decide) (by omega)
    have e2 : ((3 : Int32) < nI (dl m n a)) = (3 < dl m n a) := nlt (n := 3) (by omega) (by decide)
    simp only [e1, e2]
    have bad : ¬ (nOK m a (nc m n a - a) ∧ dv (chs m a) (nc m n a - a) ≤ 255) → (Sum.elim (fun r => some r) (fun u : Int32 × Int32 × Int32 => some u.2.1) (Sum.inl (-1 : Int32))) = some (PT m n 40 q 0 0) := fun z => by rw [← h9, PT_no ha z]; rfl
    by_cases z1 : dl m n a < 1
    · left
      rw [if_pos z1]
      refine ⟨_, rfl, bad fun z => ?_⟩
      have := nc_dl ha z.1
      have := z.1.1
      omega
    · rw [if_neg z1]
      by_cases z2 : 3 < dl m n a
      · left
        rw [if_pos z2]
        refine ⟨_, rfl, bad fun z => ?_⟩
        have := nc_dl ha z.1
        have := z.1.2.1
        omega
      · have hv := dv_lt3 (by omega) had
        rw [if_neg z2, mnum_eq h (by omega) (by omega) had, Option.bind_some]
        have e5 : (nI (dv (chs m a) (dl m n a)) ≤ (255 : Int32)) = (dv (chs m a) (dl m n a) ≤ 255) := nle (k := 255) (by decide) (by omega)
        have e7 : ((5 : Int32) ≤ nI i) = (5 ≤ i) := nle (n := 5) (by omega) (by decide)
        simp only [e5, e7, nI_add, l3, Option.bind_some, nI_1, show (256 : Int32) = nI 256 from rfl, nI_mul, neq (show n < 2 ^ 31 by omega) (show a + dl m n a < 2 ^ 31 by omega), nle (show a + dl m n a < 2 ^ 31 by omega) (show n < 2 ^ 31 by omega)]
        by_cases z3 : dv (chs m a) (dl m n a) ≤ 255
        · rw [if_pos z3, nI_and16 (by omega)]
          have good : a + dl m n a = n ∨ chN m (a + dl m n a) = 44 → PT m n f (a + dl m n a + 1) (i + 1) ((256 * v + dv (chs m a) (dl m n a)) % 65536) = PT m n 40 q 0 0 := fun hh => by
            have e8 := dl_nc ha hh
            have e9 : nc m n a - a = dl m n a := by omega
            rw [← h9, PT_ok ha ⟨by omega, by omega, by rw [e9]; exact had⟩ (by rw [e9]; exact z3), e9, e8, Nat.mul_comm v 256]
          by_cases i5 : 5 ≤ i
          · rw [if_pos i5]
            by_cases z4 : a + dl m n a = n
            · right
              rw [if_pos z4]
              exact ⟨_, w - 1, by omega, rfl, _, i + 1, a + dl m n a + 1, f, rfl, by omega, by omega, by omega, Nat.mod_lt _ (by decide), by omega, good (Or.inl z4)⟩
            · left
              rw [if_neg z4]
              refine ⟨_, rfl, ?_⟩
              by_cases ok : nOK m a (nc m n a - a) ∧ dv (chs m a) (nc m n a - a) ≤ 255
              · have := nc_dl ha ok.1
                have := nc_le (m := m) ha
                rw [← h9, PT_ok ha ok.1 ok.2, PT_big (by omega) (by omega) (by omega)]; rfl
              · exact bad ok
          · rw [if_neg i5]
            by_cases z4 : n ≤ a + dl m n a
            · left
              rw [if_pos z4]
              refine ⟨_, rfl, ?_⟩
              by_cases ok : nOK m a (nc m n a - a) ∧ dv (chs m a) (nc m n a - a) ≤ 255
              · have := nc_dl ha ok.1
                have := nc_le (m := m) ha
                rw [← h9, PT_ok ha ok.1 ok.2, PT_end (by omega), if_neg (by omega)]; rfl
              · exact bad ok
            · have b := ch_b h (show a + dl m n a < n by omega)
              rw [if_neg z4, gB (by omega) (by decide), clI (by omega), ch_m h (by omega)]
              have e6 : (nI (chN m (a + dl m n a)) = (44 : Int32)) = (chN m (a + dl m n a) = 44) := neq (k := 44) (by decide) (by omega)
              simp only [e6]
              by_cases z5 : chN m (a + dl m n a) = 44
              · right
                rw [if_pos z5]
                exact ⟨_, w - 1, by omega, rfl, _, i + 1, a + dl m n a + 1, f, rfl, by omega, by omega, by omega, Nat.mod_lt _ (by decide), by omega, good (Or.inr z5)⟩
              · left
                rw [if_neg z5]
                refine ⟨_, rfl, ?_⟩
                by_cases ok : nOK m a (nc m n a - a) ∧ dv (chs m a) (nc m n a - a) ≤ 255
                · have e8 := nc_dl ha ok.1
                  have := nc_le (m := m) ha
                  exfalso
                  have := nc_at (m := m) (n := n) (q := a) (by omega) ha
                  rw [show nc m n a = a + dl m n a by omega] at this
                  exact z5 this
                · exact bad ok
        · left
          rw [if_neg z3]
          refine ⟨_, rfl, bad fun z => ?_⟩
          rw [← nc_dl ha z.1] at z
          exact z3 z.2
theorem PT_r {m : Hp} {n : Nat} : ∀ {f q i v : Nat}, v < 65536 → PT m n f q i v = -1 ∨ ∃ a, a < 65536 ∧ PT m n f q i v = nI a
  | 0, q, i, v, h => by
    rw [PT]
    by_cases z : i = 6
    · rw [if_pos z]; exact Or.inr ⟨v, h, rfl⟩
    · rw [if_neg z]; exact Or.inl rfl
  | f + 1, q, i, v, h => by
    by_cases g : n < q
    · rw [PT_end g]
      by_cases z : i = 6
      · rw [if_pos z]; exact Or.inr ⟨v, h, rfl⟩
      · rw [if_neg z]; exact Or.inl rfl
    · by_cases ok : nOK m q (nc m n q - q) ∧ dv (chs m q) (nc m n q - q) ≤ 255
      · rw [PT_ok (by omega) ok.1 ok.2]
        exact PT_r (Nat.mod_lt _ (by decide))
      · exact Or.inl (PT_no (by omega) ok)
