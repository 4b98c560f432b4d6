/-! account: both sides -/
theorem acc_loop {m : Hp} {a : Nat} {U W : Int64} {t : Int32} (a1 : a ≤ 4) (a3 : gI m (20, 0) 5 = nI a) (ht : r01 t) : ∃ x, iter (m_account_l60 U W m) FU (t, (0 : Int32)) = some x ∧ r01 x.1 ∧ (x.1 = 1 ↔ t = 1 ∧ ∀ j, j < a → gL m (26, 0) j ≠ U) := by
  refine iterN (P := fun w st => ∃ k s, st = (s, nI k) ∧ k + w = a ∧ r01 s ∧ (s = 1 ↔ t = 1 ∧ ∀ j, j < k → gL m (26, 0) j ≠ U)) ?_ FU a _ ⟨0, t, rfl, by omega, ht, ⟨fun z => ⟨z, fun j hj => by omega⟩, fun z => z.1⟩⟩ (by show a < 1000; omega)
  rintro w st ⟨k, s, rfl, h1, h2, h3⟩
  have ek : (nI a ≤ nI k) = (a ≤ k) := nle (by omega) (by omega)
  rw [m_account_l60, a3]
  simp only [ek]
  by_cases z : a ≤ k
  · left
    rw [if_pos z]
    have : k = a := by omega
    subst this
    exact ⟨_, rfl, h2, h3⟩
  · right
    rw [if_neg z]
    rcases h2 with rfl | rfl
    · rw [if_pos rfl, Option.bind_some, nI_1]
      refine ⟨_, w - 1, by omega, rfl, k + 1, 0, rfl, by omega, Or.inl rfl, ⟨fun q => absurd q (by decide), fun q => ?_⟩⟩
      exact absurd (h3.mpr ⟨q.1, fun j hj => q.2 j (by omega)⟩) (by decide)
    · obtain ⟨p1, p2⟩ := h3.mp rfl
      rw [if_neg one_ne, gB (by omega) (by decide), clI (by omega), nI_1]
      by_cases e : gL m (26, 0) k = U
      · rw [if_pos e]
        exact ⟨_, w - 1, by omega, rfl, k + 1, 0, rfl, by omega, Or.inl rfl, ⟨fun q => absurd q (by decide), fun q => absurd e (q.2 k (by omega))⟩⟩
      · rw [if_neg e]
        refine ⟨_, w - 1, by omega, rfl, k + 1, 1, rfl, by omega, Or.inr rfl, ⟨fun _ => ⟨p1, fun j hj => ?_⟩, fun _ => rfl⟩⟩
        by_cases f : j = k
        · rw [f]; exact e
        · exact p2 j (by omega)
theorem ufi_none {m : Hp} {U : Int64} {a : Nat} : ufi m U a = none ↔ ∀ j, j < a → gL m (26, 0) j ≠ U := by
  constructor
  · intro h j hj e
    have := ffi_none h j hj
    rw [decide_eq_true e] at this
    cases this
  · intro h
    cases q : ufi m U a with
    | none => rfl
    | some f =>
      obtain ⟨f1, f2, -⟩ := ffi_some q
      exact absurd (of_decide_eq_true f2) (h f f1)
def accOK (m : Hp) (a : Nat) (U W : Int64) : Prop := gI m (20, 0) 12 = 0 ∧ a < 4 ∧ U ≠ 0 ∧ W ≠ 0 ∧ ufi m U a = none ∧ ffi (frB m) 24 ≠ none
theorem acc_g {c m : Hp} {a : Nat} {U W : Int64} (hn : rNs c m) (a1 : a ≤ 4) (a3 : gI m (20, 0) 5 = nI a) : ∃ g, (if (4 : Int32) ≤ (gI m (20, 0) 5) then some (0 : Int32) else if U = (0 : Int64) then some (0 : Int32) else if W = (0 : Int64) then some (0 : Int32) else (m_freeNode m).bind fun y7 => if (24 : Int32) ≤ y7 then some (0 : Int32) else if (gI m (20, 0) 12) = 0 then some (1 : Int32) else some (0 : Int32)) = some g ∧ r01 g ∧ (g = 1 ↔ gI m (20, 0) 12 = 0 ∧ a < 4 ∧ U ≠ 0 ∧ W ≠ 0 ∧ ffi (frB m) 24 ≠ none) := by
  have e4 : ((4 : Int32) ≤ nI a) = (4 ≤ a) := nle (n := 4) (k := a) (by omega) (by decide)
  have no : ∀ {p : Prop}, ¬ p → ((0 : Int32) = 1 ↔ p) := fun h => ⟨fun z => absurd z (by decide), fun z => absurd z h⟩
  rw [a3, free_eq hn]
  simp only [e4]
  by_cases z1 : 4 ≤ a
  · rw [if_pos z1]
    exact ⟨0, rfl, Or.inl rfl, no (fun q => by omega)⟩
  · rw [if_neg z1]
    by_cases z2 : U = 0
    · rw [if_pos z2]
      exact ⟨0, rfl, Or.inl rfl, no (fun q => q.2.2.1 z2)⟩
    · rw [if_neg z2]
      by_cases z3 : W = 0
      · rw [if_pos z3]
        exact ⟨0, rfl, Or.inl rfl, no (fun q => q.2.2.2.1 z3)⟩
      · rw [if_neg z3, Option.bind_some]
        cases hfr : ffi (frB m) 24 with
        | none =>
          rw [if_pos (by show (24 : Int32) ≤ nI 24; decide)]
          exact ⟨0, rfl, Or.inl rfl, no (fun q => q.2.2.2.2 rfl)⟩
        | some k =>
          have hk := (ffi_some hfr).1
          rw [if_neg (show ¬ (24 : Int32) ≤ nI ((some k).getD 24) from c24 hk)]
          by_cases z4 : gI m (20, 0) 12 = 0
          · rw [if_pos z4]
            exact ⟨1, rfl, Or.inr rfl, ⟨fun _ => ⟨z4, by omega, z2, z3, fun q => by cases q⟩, fun _ => rfl⟩⟩
          · rw [if_neg z4]
            exact ⟨0, rfl, Or.inl rfl, no (fun q => z4 q.1)⟩
theorem op_account (p q : Int64) : Op (r_account p q) (m_account p q) := by
  intro c m h
  obtain ⟨⟨n, hl⟩, hs, hw, hmsg, hn, hd, ⟨a, hac⟩, hg, he, hk⟩ := id h
  have hac' : AC c m a := hac
  obtain ⟨a1, a2, a3, a4, a5, a6⟩ := id hac'
  obtain ⟨w1, hw1, rfl⟩ := wb_of p
  obtain ⟨w2, hw2, rfl⟩ := wb_of q
  have cU := partOfWord_eq hw1 c
  have cU2 := withoutDots_eq (b := bw w1) (n := lw w1) (fun j _ => bw_lt w1 j) c
  have cW := partOfWord_eq hw2 c
  have cW2 := withoutDots_eq (b := bw w2) (n := lw w2) (fun j _ => bw_lt w2 j) c
  have mU := nameOf_eq (w := w1) m
  have mW := nameOf_eq (w := w2) m
  generalize lN (ND (bw w1) (lw w1)) = U at cU2 mU
  generalize lN (ND (bw w2) (lw w2)) = W at cW2 mW
  have e4 : (nI a < (4 : Int32)) = (a < 4) := nlt (n := a) (k := 4) (by decide) (by omega)
  have cw : r_account (lN w1) (lN w2) c = if gI m (20, 0) 12 = 0 then (if a < 4 then (if U = 0 then some ((0 : Int32), c) else if W = 0 then some ((0 : Int32), c) else if ufi m U a = none then (tree_add none (0 : Int64) (1 : Int32) c).bind fun y12 => if y12.1 = none then some ((0 : Int32), y12.2) else (newx 15 y12.2).bind fun x14 => (acc_init x14 U W y12.1 (sN y12.2)).bind fun y15 => (al_add (some x14) y15).bind fun y16 => some ((1 : Int32), y16.2) else some ((0 : Int32), c)) else some ((0 : Int32), c)) else some ((0 : Int32), c) := by
    rw [r_account, cU, Option.bind_some, cU2, Option.bind_some, cW, Option.bind_some, cW2, Option.bind_some, hs.1.1, al_size, Option.bind_some, a2, accOf_eq hac', Option.bind_some]
    simp only [e4]
  obtain ⟨g, g1, g2, g3⟩ := acc_g (U := U) (W := W) hn a1 a3
  obtain ⟨x, x1, x2, x3⟩ := acc_loop (U := U) (W := W) a1 a3 g2
  rw [g3, ← ufi_none] at x3
  have tw : m_account (lN w1) (lN w2) m = if x.1 = 0 then some ((0 : Int32), m) else (m_freeNode m).bind fun y17 => (m_make y17 (1 : Int32) y17 (0 : Int64) m).bind fun y18 => guardB (gI y18 (20, 0) 5) 4 <| guardB (gI (sL y18 (26, 0) (gI y18 (20, 0) 5).toNatClampNeg U) (20, 0) 5) 4 <| guardB (gI (sL (sL y18 (26, 0) (gI y18 (20, 0) 5).toNatClampNeg U) (27, 0) (gI (sL y18 (26, 0) (gI y18 (20, 0) 5).toNatClampNeg U) (20, 0) 5).toNatClampNeg W) (20, 0) 5) 4 <| some ((1 : Int32), (sI (sI (sL (sL y18 (26, 0) (gI y18 (20, 0) 5).toNatClampNeg U) (27, 0) (gI (sL y18 (26, 0) (gI y18 (20, 0) 5).toNatClampNeg U) (20, 0) 5).toNatClampNeg W) (28, 0) (gI (sL (sL y18 (26, 0) (gI y18 (20, 0) 5).toNatClampNeg U) (27, 0) (gI (sL y18 (26, 0) (gI y18 (20, 0) 5).toNatClampNeg U) (20, 0) 5).toNatClampNeg W) (20, 0) 5).toNatClampNeg y17) (20, 0) 5 ((gI (sI (sL (sL y18 (26, 0) (gI y18 (20, 0) 5).toNatClampNeg U) (27, 0) (gI (sL y18 (26, 0) (gI y18 (20, 0) 5).toNatClampNeg U) (20, 0) 5).toNatClampNeg W) (28, 0) (gI (sL (sL y18 (26, 0) (gI y18 (20, 0) 5).toNatClampNeg U) (27, 0) (gI (sL y18 (26, 0) (gI y18 (20, 0) 5).toNatClampNeg U) (20, 0) 5).toNatClampNeg W) (20, 0) 5).toNatClampNeg y17) (20, 0) 5) + (1 : Int32)))) := by
    rw [m_account, mU, Option.bind_some, mW, Option.bind_some, g1, Option.bind_some, x1, Option.bind_some]
  by_cases ok : accOK m a U W
  · obtain ⟨k12, k4, kU, kW, ku, kf⟩ := ok
    have x1' : x.1 = 1 := x3.mpr ⟨⟨k12, k4, kU, kW, kf⟩, ku⟩
    rw [x1', if_neg one_ne, free_eq hn, Option.bind_some] at tw
    rw [if_pos k12, if_pos k4, if_neg kU, if_neg kW, if_pos ku, add_eq hn (Or.inr rfl)] at cw
    cases hfr : ffi (frB m) 24 with
    | none => exact absurd hfr kf
    | some k =>
      obtain ⟨hk24, hk0⟩ := fr_some hfr
      rw [hfr] at tw cw
      rw [show (some k).getD 24 = k from rfl, m_make, gB hk24 (by decide), gB hk24 (by decide), gB hk24 (by decide), gB hk24 (by decide), clI (by omega), Option.bind_some] at tw
      obtain ⟨b1, b2, b3, b4, b5, b6, b7⟩ := root_N hn hd hg hk24 hk0 rfl rfl
      generalize em1 : sI (sL (sI (sI m (21, 0) k (1 : Int32)) (22, 0) k (nI k)) (23, 0) k (0 : Int64)) (24, 0) k (0 : Int32) = m1 at tw b1 b2 b3 b4 b5 b6 b7
      have h5 : gI m1 (20, 0) 5 = nI a := by rw [← em1]; exact a3
      have h5b : ∀ s v, gI (sL m1 (26, 0) s v) (20, 0) 5 = nI a := fun _ _ => h5
      have h5c : ∀ s v t w, gI (sL (sL m1 (26, 0) s v) (27, 0) t w) (20, 0) 5 = nI a := fun _ _ _ _ => h5
      have h5d : ∀ s v t w r z, gI (sI (sL (sL m1 (26, 0) s v) (27, 0) t w) (28, 0) r z) (20, 0) 5 = nI a := fun _ _ _ _ _ _ => h5
      rw [h5, gB k4 (by decide), h5b, gB k4 (by decide), h5c, gB k4 (by decide), h5d, clI (by omega), nI_1] at tw
      have lo1 : loP m1 = loP m := by rw [← em1]; simp (disch := decide) only [loP_sI, loP_sL]
      generalize ec1 : sI (sL (sR (sI c (5, k) 2 (1 : Int32)) (5, k) 5 none) (5, k) 4 (0 : Int64)) (5, k) 3 (1 : Int32) = c1 at b1 b3
      have hgn1 : gn c1 = gn c := by rw [← ec1]; rfl
      have hi1 : hiP c1 = hiP c := by rw [← ec1]; simp (disch := decide) only [hiP_sI, hiP_sL, hiP_sR]
      have hnx : newx 15 c1 = some a := by
        rw [newx, hgn1, a4, unp_gn a k4]
        exact if_pos rfl
      rw [Option.bind_some, if_neg (show ¬ (some k : Option Nat) = none from fun z => by cases z)] at cw
      have cw2 : r_account (lN w1) (lN w2) c = (al_add (some a) (sR (sL (sL (sN c1) (15, a) 0 U) (15, a) 1 W) (15, a) 2 (some k))).bind fun y16 => some ((1 : Int32), y16.2) := by
        rw [cw]
        show ((newx 15 (sI (sL (sR (sI c (5, k) 2 (1 : Int32)) (5, k) 5 none) (5, k) 4 (0 : Int64)) (5, k) 3 (1 : Int32))).bind fun x14 => (acc_init x14 U W (some k) (sN (sI (sL (sR (sI c (5, k) 2 (1 : Int32)) (5, k) 5 none) (5, k) 4 (0 : Int64)) (5, k) 3 (1 : Int32)))).bind fun y15 => (al_add (some x14) y15).bind fun y16 => some ((1 : Int32), y16.2)) = _
        rw [ec1, hnx, Option.bind_some, acc_init, Option.bind_some]
      obtain ⟨c', d1, d2, d3, d4, d5, d6, d7, d8, d9⟩ := alAdd_eq (h := sR (sL (sL (sN c1) (15, a) 0 U) (15, a) 1 W) (15, a) 2 (some k)) k4 (by
        show gI c1 (7, 0) 2 = nI a
        rw [← ec1]; exact a2) (by
        show gR c1 (7, 0) 1 = _
        rw [← ec1]; exact a5) (by
        show gn c1 + 1 = _
        rw [hgn1, a4])
      rw [d1, Option.bind_some] at cw2
      have fI : ∀ x s, ¬ (x = (7, 0)) → gI c' x s = gI c1 x s := fun x s hx => by rw [d2 x s hx]; rfl
      have fL : ∀ x s, ¬ (x = (15, a)) → gL c' x s = gL c1 x s := fun x s hx => by
        rw [d3 x s]
        simp [gL_sR, gL_sL, gL_sN, hx]
      have fR : ∀ x s, ¬ (x = (7, 0)) → ¬ (x = (16, 1)) → ¬ (x = (15, a)) → gR c' x s = gR c1 x s := fun x s h1 h2 h3 => by
        rw [d4 x s h1 (fun z => h2 z.1)]
        simp [gR_sR, gR_sL, gR_sN, h3]
      have n15 : ∀ t i, t ≠ 15 → ¬ (((t, i) : Ad) = (15, a)) := fun t i ht z => ht (Prod.mk.inj z).1
      refine ⟨1, c', _, cw2, tw, ?_, ?_, ?_⟩
      · refine ⟨⟨n, ?_⟩, ?_, ?_, ?_, ?_, b2, ?_, ?_, ?_, ?_⟩
        · obtain ⟨l1, l2, l3, l4⟩ := hl
          refine ⟨l1, by rw [fI _ _ (by decide), ← ec1]; exact l2, by rw [← em1]; exact l3, fun j hj => ?_⟩
          have := l4 j hj
          rw [fI _ _ (by decide), ← ec1, ← em1]
          exact this
        · obtain ⟨⟨s1, s2⟩, s3, ⟨s4, s5⟩, s6⟩ := hs
          refine ⟨⟨?_, ?_⟩, ?_, ⟨?_, ?_⟩, ?_⟩
          · rw [fI _ _ (by decide), ← ec1, ← em1]; exact s1
          · rw [← em1]; exact s2
          · rw [fI _ _ (by decide), ← ec1, ← em1]; exact s3
          · rw [fI _ _ (by decide), ← ec1, ← em1]; exact s4
          · rw [← em1]; exact s5
          · rw [fI _ _ (by decide), ← ec1, ← em1]; exact s6
        · obtain ⟨w, v1, v2, v3, v4⟩ := hw
          refine ⟨w, v1, ?_, ?_, fun z => ?_⟩
          · rw [fR _ _ (by decide) (by decide) (n15 _ _ (by decide)), ← ec1]; exact v2
          · rw [← em1]; exact v3
          · rw [fI _ _ (by decide), ← ec1, ← em1]; exact v4 z
        · have hmsg1 : rMsg c1 m1 := by rw [← ec1, ← em1]; exact hmsg
          rcases hmsg1 with ⟨q1, len, q2, q3, q4, q5⟩ | q
          · refine Or.inl ⟨q1, len, q2, q3, ?_, fun j hj => ?_⟩
            · rw [fI _ _ (by decide)]; exact q4
            · rw [fI _ _ (by decide)]; exact q5 j hj
          · exact Or.inr q
        · intro j hj
          have b1j : rN c1 m1 j := b1 j hj
          have n7 : ∀ t, ¬ (((t, j) : Ad) = (7, 0)) ∨ t = 7 := fun t => by
            by_cases q : t = 7
            · exact Or.inr q
            · exact Or.inl fun z => q (Prod.mk.inj z).1
          have n57 : ¬ (((5, j) : Ad) = (7, 0)) := fun z => by cases z
          have n67 : ¬ (((6, j) : Ad) = (7, 0)) := fun z => by cases z
          have n516 : ¬ (((5, j) : Ad) = (16, 1)) := fun z => by cases z
          refine rN_keep b1j rfl (fI _ _ n57) (fI _ _ n57) (fI _ _ n57) rfl (fun s _ => fI _ _ n67) (fun s _ => rfl) fun hu hP => rP_keep hP (fR _ _ n57 n516 (n15 _ _ (by decide))) rfl rfl (fL _ _ (n15 _ _ (by decide))) rfl fun p _ _ _ hp => hp
        · refine acc_A (W := W) hac' k4 hk24 hk0 kU ku d5 d6 d8 d7 (fun j hj => ?_) (fun j hj => ⟨?_, ?_, ?_⟩) ⟨?_, ?_, ?_⟩ rfl ?_ (fun j hj => ?_) ?_ (fun j hj => ?_) ?_ (fun j hj => ?_) b4 b5 b6 b7
          · rw [d4 _ _ (by decide) (fun z => hj z.2)]
            show gR c1 (16, 1) j = _
            rw [← ec1]; rfl
          · rw [fL _ _ (ad_ne hj), ← ec1]; rfl
          · rw [fL _ _ (ad_ne hj), ← ec1]; rfl
          · rw [fR _ _ (fun z => by cases z) (fun z => by cases z) (ad_ne hj), ← ec1]; rfl
          · rw [d3]; simp [gL_sR, gL_sL]
          · rw [d3]; simp [gL_sR, gL_sL]
          · rw [d4 _ _ (fun z => by cases z) (fun z => by cases z.1)]
            simp [gR_sR]
          · show (if (26, 0) = ((26, 0) : Ad) ∧ a = a then U else gL m1 (26, 0) a) = U
            rw [if_pos ⟨rfl, rfl⟩]
          · show (if (26, 0) = ((26, 0) : Ad) ∧ j = a then U else gL m1 (26, 0) j) = _
            rw [if_neg (fun z => hj z.2), ← em1]; rfl
          · show (if (27, 0) = ((27, 0) : Ad) ∧ a = a then W else gL m1 (27, 0) a) = W
            rw [if_pos ⟨rfl, rfl⟩]
          · show (if (27, 0) = ((27, 0) : Ad) ∧ j = a then W else gL m1 (27, 0) j) = _
            rw [if_neg (fun z => hj z.2), ← em1]; rfl
          · show (if (28, 0) = ((28, 0) : Ad) ∧ a = a then nI k else gI m1 (28, 0) a) = nI k
            rw [if_pos ⟨rfl, rfl⟩]
          · show (if (28, 0) = ((28, 0) : Ad) ∧ j = a then nI k else gI m1 (28, 0) j) = _
            rw [if_neg (fun z => hj z.2), ← em1]; rfl
        · have f10 : gR c' (0, 0) 10 = gR c1 (0, 0) 10 := fR _ _ (by decide) (by decide) (n15 _ _ (by decide))
          have f11 : gR c' (0, 0) 11 = gR c1 (0, 0) 11 := fR _ _ (by decide) (by decide) (n15 _ _ (by decide))
          rcases b3 with ⟨q1, q2⟩ | ⟨r, q, l1, l2, l3, l4, l5, l6, l7⟩
          · exact Or.inl ⟨by rw [f10, q1], q2⟩
          · exact Or.inr ⟨r, q, l1, l2, by rw [f10, l3], l4, by rw [f11, l5], l6, l7⟩
        · have he1 : rMem c1 m1 := by
            have := rMem_k (c := c) (m := m) (m' := m1) he (by rw [← em1]; rfl) (by rw [← em1]; rfl) (by rw [← em1]; rfl) (fun i _ hi hu hp => by
              have : i ≠ k := fun z => hu (by rw [z]; exact hk0)
              exact ⟨by rw [b5 i this]; exact hu, by rw [b7 i this]; exact hp⟩)
            rw [← ec1]; exact this
          obtain ⟨q1, q2, q3⟩ := he1
          refine ⟨?_, ?_, ?_⟩
          · rw [fL _ _ (n15 _ _ (by decide))]; exact q1
          · rw [fI _ _ (by decide)]; exact q2
          · rw [fR _ _ (by decide) (by decide) (n15 _ _ (by decide))]; exact q3
        · have k28 : gI m (20, 0) 28 = 0 ∧ gI c (12, 0) 2 = 0 ∧ gI c (12, 0) 3 = 0 := by
            rcases hk.2 with z | z | z
            · exact z
            · rw [k12] at z; exact absurd z.2.1 (by decide)
            · rw [k12] at z; exact absurd z.2.1 (by decide)
          have hk1 := hk.1
          refine ⟨?_, Or.inl ⟨?_, ?_, ?_⟩⟩
          · rw [fI _ _ (by decide), ← ec1, ← em1]; exact hk1
          · rw [← em1]; exact k28.1
          · rw [fI _ _ (by decide), ← ec1]; exact k28.2.1
          · rw [fI _ _ (by decide), ← ec1]; exact k28.2.2
      · rw [d9, hiP_sR (by decide), hiP_sL (by decide), hiP_sL (by decide), hiP_sN, hi1]
      · rw [← lo1]; simp (disch := decide) only [loP_sI, loP_sL]
  · have x0 : x.1 = 0 := by
      rcases x2 with z | z
      · exact z
      · obtain ⟨⟨k12, k4, kU, kW, kf⟩, ku⟩ := x3.mp z
        exact absurd ⟨k12, k4, kU, kW, ku, kf⟩ ok
    rw [x0, if_pos rfl] at tw
    refine ⟨0, c, m, ?_, tw, h, rfl, rfl⟩
    rw [cw]
    by_cases z1 : gI m (20, 0) 12 = 0
    · rw [if_pos z1]
      by_cases z2 : a < 4
      · rw [if_pos z2]
        by_cases z3 : U = 0
        · rw [if_pos z3]
        · rw [if_neg z3]
          by_cases z4 : W = 0
          · rw [if_pos z4]
          · rw [if_neg z4]
            by_cases z5 : ufi m U a = none
            · rw [if_pos z5, add_eq hn (Or.inr rfl)]
              cases hfr : ffi (frB m) 24 with
              | none => rfl
              | some k => exact absurd ⟨z1, z2, z3, z4, z5, by rw [hfr]; exact fun z => by cases z⟩ ok
            · rw [if_neg z5]
      · rw [if_neg z2]
    · rw [if_neg z1]
