/-! parts of the line: names, dots, numbers -/
theorem nI_sub {a b : Nat} (h : b ≤ a) : nI a - nI b = nI (a - b) := by
  rw [show nI a = nI (a - b) + nI b by rw [nI_add, Nat.sub_add_cancel h], Int32.add_sub_cancel]
theorem nI_mul (a b : Nat) : nI a * nI b = nI (a * b) := (Int32.ofNat_mul a b).symm
theorem iter_exit {S X : Type} {f : S → Option (X ⊕ S)} {s : S} {x : X} (h : f s = some (.inl x)) : iter f FU s = some x := by
  show iter f (999 + 1) s = some x
  rw [iter, h]
theorem iter_rng {A X : Type} {f : A × Int32 → Option (X ⊕ A × Int32)} {g : Nat → A → A} {a0 : A} {s L : Nat} {z : A → X} (I : Nat → A → Prop) (h1 : ∀ k a, k < L → I k a → f (a, nI (s + k)) = some (.inr (g k a, nI (s + (k + 1)))) ∧ I (k + 1) (g k a)) (h2 : ∀ a, I L a → f (a, nI (s + L)) = some (.inl (z a))) : ∀ (m i : Nat), i + m = L → I i (fo g a0 i) → ∀ F, m < F → iter f F (fo g a0 i, nI (s + i)) = some (z (fo g a0 L))
  | 0, i, e, hi, F, hF => by
    obtain ⟨F, rfl⟩ : ∃ k, F = k + 1 := ⟨F - 1, by omega⟩
    obtain rfl : i = L := by omega
    rw [iter, h2 _ hi]
  | m + 1, i, e, hi, F, hF => by
    obtain ⟨F, rfl⟩ : ∃ k, F = k + 1 := ⟨F - 1, by omega⟩
    obtain ⟨h3, h4⟩ := h1 i _ (by omega) hi
    rw [iter, h3]
    exact iter_rng I h1 h2 m (i + 1) (by omega) h4 F (by omega)
theorem iter_rng0 {A X : Type} {f : A × Int32 → Option (X ⊕ A × Int32)} (g : Nat → A → A) (a0 : A) (s L : Nat) (z : A → X) (I : Nat → A → Prop) (h0 : I 0 a0) (hL : L < 1000) (h1 : ∀ k a, k < L → I k a → f (a, nI (s + k)) = some (.inr (g k a, nI (s + (k + 1)))) ∧ I (k + 1) (g k a)) (h2 : ∀ a, I L a → f (a, nI (s + L)) = some (.inl (z a))) : iter f FU (a0, nI s) = some (z (fo g a0 L)) := iter_rng I h1 h2 L 0 (by omega) h0 FU hL
def plw (b : Nat → Nat) : Nat → Nat
  | 0 => 0
  | k + 1 => b k * 2 ^ (8 * k) + plw b k
theorem plw_lt {b : Nat → Nat} : ∀ {n : Nat}, (∀ j, j < n → b j < 256) → plw b n < 2 ^ (8 * n)
  | 0, _ => by rw [plw]; decide
  | n + 1, h => by
    have h1 := plw_lt (n := n) fun j hj => h j (by omega)
    have h2 := h n (by omega)
    rw [plw, show 8 * (n + 1) = 8 + 8 * n by omega, Nat.pow_add]
    have h3 : (b n + 1) * 2 ^ (8 * n) ≤ 256 * 2 ^ (8 * n) := Nat.mul_le_mul_right _ (by omega)
    rw [Nat.add_mul, Nat.one_mul] at h3
    omega
theorem plw_bw {b : Nat → Nat} : ∀ {n k : Nat}, (∀ j, j < n → b j < 256) → bw (plw b n) k = if k < n then b k else 0
  | 0, k, _ => by rw [plw, bw, Nat.zero_div]; rfl
  | n + 1, k, h => by
    have h1 := plw_lt (n := n) fun j hj => h j (by omega)
    have h2 := h n (by omega)
    have ih := plw_bw (n := n) (k := k) fun j hj => h j (by omega)
    rw [bw] at ih
    rw [plw, bw]
    by_cases a : k < n
    · have e : b n * 2 ^ (8 * n) = (b n * 2 ^ (8 * (n - k) - 8) * 256) * 2 ^ (8 * k) := by
        rw [show (256 : Nat) = 2 ^ 8 from rfl, Nat.mul_assoc, Nat.mul_assoc, ← Nat.pow_add, ← Nat.pow_add]
        congr 2
        omega
      rw [e, Nat.add_comm, Nat.add_mul_div_right _ _ (Nat.two_pow_pos _), Nat.add_mul_mod_self_right, ih, if_pos a, if_pos (by omega)]
    · by_cases d : k = n
      · subst d
        rw [Nat.add_comm, Nat.add_mul_div_right _ _ (Nat.two_pow_pos _), Nat.div_eq_of_lt h1, Nat.zero_add, Nat.mod_eq_of_lt h2, if_pos (by omega)]
      · have h3 : b n * 2 ^ (8 * n) + plw b n < 2 ^ (8 * k) := by
          have h4 := plw_lt (b := b) (n := n + 1) h
          rw [plw] at h4
          exact Nat.lt_of_lt_of_le h4 (Nat.pow_le_pow_right (by omega) (by omega))
        rw [Nat.div_eq_of_lt h3, if_neg (by omega)]
theorem plw_lw {b : Nat → Nat} {n : Nat} (hn : n ≤ 6) (h : ∀ j, j < n → 0 < b j ∧ b j < 256) : lw (plw b n) = n := by
  have e : ∀ k, bw (plw b n) k = if k < n then b k else 0 := fun k => plw_bw fun j hj => (h j hj).2
  have h1 := lw_le (plw b n)
  by_cases a : lw (plw b n) < n
  · have := lw_z (w := plw b n) (by omega)
    rw [e, if_pos a] at this
    have := (h _ a).1
    omega
  · by_cases d : n < lw (plw b n)
    · have := lw_ne d
      rw [e, if_neg (by omega)] at this
      exact absurd rfl this
    · omega
/-- the signs of the line from s on -/
def chs (m : Hp) (s : Nat) (j : Nat) : Nat := chN m (s + j)
theorem partOfLine_eq {c m : Hp} {n s e : Nat} (h : rLine c m n) (hs : s ≤ e) (he : e ≤ n) : name_partOfLine (nI s) (nI e) c = some (lN (NV (chs m s) (e - s))) := by
  obtain ⟨l1, l2, l3, l4⟩ := id h
  have hb : ∀ j, j < e - s → 0 < chs m s j ∧ chs m s j < 256 := fun j hj => by
    have := ch_b h (show s + j < n by omega)
    unfold chs
    omega
  rw [name_partOfLine, nI_sub hs]
  have e1 : (nI (e - s) ≤ (6 : Int32)) = (e - s ≤ 6) := nle (k := 6) (by decide) (by omega)
  simp only [e1]
  by_cases a : e - s ≤ 6
  · rw [if_pos a]
    have hh : iter (name_partOfLine_l15 (nI s) (nI e) c) FU ((0 : Int64), nI s) = some (lN (plw (chs m s) (e - s)), nI e) := by
      have := iter_rng0 (f := name_partOfLine_l15 (nI s) (nI e) c) (fun k _ => lN (plw (chs m s) (k + 1))) (lN 0) s (e - s) (fun x => (x, nI e)) (fun k x => x = lN (plw (chs m s) k)) rfl (by omega) (fun k x hk hx => by
        subst hx
        refine ⟨?_, rfl⟩
        have hb2 := hb k hk
        rw [name_partOfLine_l15, if_neg (by rw [nle (by omega) (by omega)]; omega), line_at_in h (by omega), Option.bind_some, nI_sub (by omega), Nat.add_sub_cancel_left, m8, show chN m (s + k) = chs m s k from rfl, orL (by omega) hb2.2 (plw_lt fun j hj => (hb j (by omega)).2), nI_1]
        rfl) (fun x hx => by
        rw [name_partOfLine_l15, if_pos (by rw [nle (by omega) (by omega)]; omega), show s + (e - s) = e by omega])
      refine this.trans ?_
      cases q : e - s with
      | zero => rfl
      | succ k => rfl
    have hlt : plw (chs m s) (e - s) < 2 ^ 64 := by
      have := plw_lt (n := e - s) fun j hj => (hb j hj).2
      exact Nat.lt_of_lt_of_le this (Nat.pow_le_pow_right (by omega) (by omega))
    rw [hh, Option.bind_some, partOfWord_eq hlt, Option.bind_some, plw_lw a hb, NV_congr (b' := chs m s)]
    intro j hj
    rw [plw_bw fun j hj => (hb j hj).2, if_pos hj]
  · rw [if_neg a, NV, if_neg (fun z => a z.1)]; rfl
theorem mDots_eq {c m : Hp} {n s e : Nat} (h : rLine c m n) (hs : s ≤ e) (he : e ≤ n) : m_isDots (nI s) (nI e) m = some (if dts (chs m s) (e - s) = true ∧ e - s < 3 then nI (e - s) else 0) := by
  obtain ⟨l1, l2, l3, l4⟩ := id h
  have hh : iter (m_isDots_l5 (nI s) (nI e) m) FU ((1 : Int32), nI s) = some (fo (fun k (_ : Int32) => if dts (chs m s) (k + 1) = true then (1 : Int32) else 0) 1 (e - s), nI e) := by
    refine iter_rng0 (f := m_isDots_l5 (nI s) (nI e) m) _ (1 : Int32) s (e - s) (fun x => (x, nI e)) (fun k x => x = if dts (chs m s) k = true then (1 : Int32) else 0) rfl (by omega) (fun k x hk hx => ?_) (fun x hx => ?_)
    · subst hx
      refine ⟨?_, rfl⟩
      have b := ch_b h (show s + k < n by omega)
      rw [m_isDots_l5, if_neg (by rw [nle (by omega) (by omega)]; omega), gB (by omega) (by decide), clI (by omega), ch_m h (by omega)]
      have e1 : (nI (chN m (s + k)) = (46 : Int32)) = (chs m s k = 46) := neq (k := 46) (by decide) (by omega)
      have ed : dts (chs m s) (k + 1) = (dts (chs m s) k && decide (chs m s k = 46)) := rfl
      simp only [e1, nI_1]
      by_cases a1 : dts (chs m s) k = true
      · rw [if_pos a1, if_neg (by decide)]
        by_cases a2 : chs m s k = 46
        · rw [if_pos a2, if_pos (by rw [ed, a1, decide_eq_true a2]; rfl)]; rfl
        · rw [if_neg a2, if_neg (by rw [ed, a1, decide_eq_false a2]; decide)]; rfl
      · rw [if_neg a1, if_pos rfl, if_neg (by rw [ed, Bool.and_eq_true]; exact fun z => a1 z.1)]
        rfl
    · rw [m_isDots_l5, if_pos (by rw [nle (by omega) (by omega)]; omega), show s + (e - s) = e by omega]
  have hv : fo (fun k (_ : Int32) => if dts (chs m s) (k + 1) = true then (1 : Int32) else 0) 1 (e - s) = if dts (chs m s) (e - s) = true then (1 : Int32) else 0 := by
    cases e - s with
    | zero => rfl
    | succ k => rfl
  rw [m_isDots, hh, hv, Option.bind_some]
  have e1 : ((3 : Int32) ≤ nI (e - s)) = (3 ≤ e - s) := nle (n := 3) (by omega) (by decide)
  simp only [nI_sub hs, e1]
  by_cases a : dts (chs m s) (e - s) = true
  · rw [if_pos a, if_neg (by decide)]
    by_cases b : 3 ≤ e - s
    · rw [if_pos b, if_neg (fun z => by omega)]; rfl
    · rw [if_neg b, if_pos ⟨a, by omega⟩]; rfl
  · rw [if_neg a, if_pos rfl, if_neg (fun z => a z.1)]; rfl
theorem nameAt_eq {c m : Hp} {n s e : Nat} (h : rLine c m n) (hs : s ≤ e) (he : e ≤ n) : m_nameAt (nI s) (nI e) m = some (lN (ND (chs m s) (e - s))) := by
  obtain ⟨l1, l2, l3, l4⟩ := id h
  rw [m_nameAt]
  have e1 : ((6 : Int32) < nI (e - s)) = (6 < e - s) := nlt (n := 6) (by omega) (by decide)
  simp only [nI_sub hs, e1, nle (show s < 2 ^ 31 by omega) (show e < 2 ^ 31 by omega)]
  by_cases a : e ≤ s ∨ 6 < e - s
  · have e2 : (if e ≤ s then some (0 : Int32) else if 6 < e - s then some 0 else some 1) = some 0 := by
      by_cases q : e ≤ s
      · rw [if_pos q]
      · rw [if_neg q, if_pos (by omega)]
    rw [e2, Option.bind_some, iter_exit (x := (0, 0, nI s))]
    · rw [Option.bind_some, if_pos rfl, Option.bind_some, ND, NV]
      by_cases q : dts (chs m s) (e - s) = true ∧ e - s < 3
      · rw [if_pos q]; rfl
      · rw [if_neg q]
        by_cases q2 : e - s ≤ 6 ∧ okn (chs m s) (e - s) = true
        · rw [if_pos q2, show e - s = 0 by omega]; rfl
        · rw [if_neg q2]; rfl
    · rw [m_nameAt_l25]
      by_cases q : nI e ≤ nI s
      · rw [if_pos q]
      · rw [if_neg q, if_pos rfl]
  · have e2 : (if e ≤ s then some (0 : Int32) else if 6 < e - s then some 0 else some 1) = some 1 := by
      rw [if_neg (by omega), if_neg (by omega)]
    rw [e2, Option.bind_some]
    have key : ∃ x, iter (m_nameAt_l25 (nI s) (nI e) m) FU ((0 : Int64), (1 : Int32), nI s) = some x ∧ (okn (chs m s) (e - s) = true → x.1 = lN (nmv (chs m s) (e - s)) ∧ x.2.1 = 1) ∧ (okn (chs m s) (e - s) = false → x.2.1 = 0) := by
      refine iterN (P := fun q st => ∃ k, k + q = e - s ∧ ∃ x, st = (x, (if okn (chs m s) k = true then (1 : Int32) else 0), nI (s + k)) ∧ (okn (chs m s) k = true → x = lN (nmv (chs m s) k))) ?_ FU (e - s) _ ⟨0, by omega, 0, rfl, fun _ => rfl⟩ (by show e - s < 1000; omega)
      rintro q st ⟨k, e4, x, rfl, hx⟩
      rw [m_nameAt_l25]
      by_cases g : e ≤ s + k
      · left
        rw [if_pos (by rw [nle (by omega) (by omega)]; omega)]
        refine ⟨_, rfl, ?_, ?_⟩
        · rw [show e - s = k by omega]
          exact fun z => ⟨hx z, if_pos z⟩
        · rw [show e - s = k by omega]
          exact fun z => if_neg (by rw [z]; decide)
      · rw [if_neg (by rw [nle (by omega) (by omega)]; omega)]
        by_cases ok : okn (chs m s) k = true
        · right
          have b := ch_b h (show s + k < n by omega)
          obtain rfl := hx ok
          have e5 : ((5 : Int32) - nI (s + k)) + nI s = (5 : Int32) - nI k := by
            rw [← nI_add]; grind
          rw [if_pos ok, if_neg (by decide), gB (by omega) (by decide), clI (by omega), ch_m h (by omega), nI_l (by omega), mfits (by omega), Option.bind_some, gB (by omega) (by decide), e5, adH (by omega), nI_1]
          refine ⟨_, q - 1, by omega, rfl, k + 1, by omega, _, ?_, fun _ => rfl⟩
          have : okn (chs m s) (k + 1) = sg (chN m (s + k)) := by rw [okn, ok]; rfl
          rw [this]; rfl
        · left
          rw [if_neg ok, if_pos rfl]
          have ok' : okn (chs m s) (e - s) = false := by
            cases z : okn (chs m s) (e - s) with
            | false => rfl
            | true => exact absurd (okn_iff.mpr fun j hj => okn_iff.mp z j (by omega)) ok
          refine ⟨_, rfl, (fun z => by rw [ok'] at z; cases z), fun _ => rfl⟩
    obtain ⟨x, e6, k1, k2⟩ := key
    rw [e6, Option.bind_some, mDots_eq h hs he]
    have hlt := ND_lt (b := chs m s) (n := e - s) (fun j hj => by
      have := ch_b h (show s + j < n by omega)
      unfold chs; omega)
    cases ok : okn (chs m s) (e - s) with
    | true =>
      obtain ⟨k3, k4⟩ := k1 ok
      have hv : NV (chs m s) (e - s) = nmv (chs m s) (e - s) := by rw [NV, if_pos ⟨by omega, ok⟩]
      rw [k4, if_neg (by decide), Option.bind_some, k3, ND, hv]
      by_cases d : dts (chs m s) (e - s) = true ∧ e - s < 3
      · rw [if_pos d, if_pos d, if_neg (nI_nle (by omega) (by omega))]; rfl
      · rw [if_neg d, if_neg d, if_pos (by decide)]; rfl
    | false =>
      have hv : NV (chs m s) (e - s) = 0 := by rw [NV, if_neg (fun z => by rw [ok] at z; exact absurd z.2 (by decide))]
      rw [k2 ok, if_pos rfl, ND, hv]
      by_cases d : dts (chs m s) (e - s) = true ∧ e - s < 3
      · rw [if_pos d]; rfl
      · rw [if_neg d]; rfl
