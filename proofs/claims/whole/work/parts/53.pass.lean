/-! PASS and TYPE -/
def AC (c m : Hp) (a : Nat) : Prop := a ≤ 4 ∧ gI c (7, 0) 2 = nI a ∧ gI m (20, 0) 5 = nI a ∧ gn c = 74 + (if a = 0 then 0 else a + 1) ∧ gR c (7, 0) 1 = (if a = 0 then some 0 else some 1) ∧ ∀ k, k < a → rA c m k
def ufi (m : Hp) (u : Int64) (a : Nat) : Option Nat := ffi (fun k => decide (gL m (26, 0) k = u)) a
theorem pos15 : ∀ k, k < 4 → pos (15, k) ≤ 75 + k := by decide
theorem nda_ok {c m : Hp} {a k : Nat} (h : AC c m a) (hk : k < a) : nda c (some k) = some k := by
  obtain ⟨a1, a2, a3, a4, a5, a6⟩ := h
  have := pos15 k (by omega)
  rw [if_neg (by omega)] at a4
  show (if k < 4 ∧ pos (15, k) < gn c then some k else none) = some k
  rw [if_pos]
  refine ⟨by omega, ?_⟩
  by_cases z : k = 0
  · rw [z, show pos (15, 0) = 74 from rfl]; omega
  · omega
theorem alget_ok {c m : Hp} {a k : Nat} (h : AC c m a) (hk : k < a) : al_get (nI k) c = some (some k) := by
  obtain ⟨a1, a2, a3, a4, a5, a6⟩ := h
  rw [if_neg (by omega)] at a4 a5
  rw [al_get, obj_checkIndex, pre_checkIndex, a2, if_neg (nI_pos (by omega)), if_pos (nI_lt hk (by omega)), Option.bind_some, Option.bind_some, al_elementData, guardE, if_pos ⟨a5, by omega⟩, gB (by omega) (by decide), clI (by omega), (a6 k hk).1]
  rfl
theorem accOf_eq {c m : Hp} {u : Int64} {a : Nat} (h : AC c m a) : r_accountOf u c = some (ufi m u a) := by
  obtain ⟨a1, a2, a3, a4, a5, a6⟩ := id h
  have key : iter (r_accountOf_l2 u c) FU (0 : Int32) = some (match ffi (fun k => decide (gL m (26, 0) k = u)) a with | some k => .inl (some k) | none => .inr (nI a)) := by
    refine iter_find0 (n := a) (fun k => decide (gL m (26, 0) k = u)) (fun k => (Sum.inl (some k) : (Option Nat) ⊕ Int32)) (Sum.inr (nI a)) (show a < 1000 by omega) (fun k hk => ?_) ?_
    · rw [r_accountOf_l2, al_size, Option.bind_some, a2, if_neg (nI_ge hk (by omega)), alget_ok h hk, Option.bind_some, nda_ok h hk, Option.bind_some, (a6 k hk).2.1, nI_1]
      by_cases z : gL m (26, 0) k = u
      · rw [if_pos z, if_pos (decide_eq_true z)]
      · rw [if_neg z, if_neg (by simpa using z)]
    · rw [r_accountOf_l2, al_size, Option.bind_some, a2, if_pos (nI_le (Nat.le_refl a) (by omega))]
  rw [r_accountOf, key, Option.bind_some]
  unfold ufi
  cases ffi (fun k => decide (gL m (26, 0) k = u)) a <;> rfl
theorem ufi_iff {c m : Hp} {u : Int64} {a : Nat} (h : AC c m a) {k : Nat} (hk : k < a) : gL m (26, 0) k = u ↔ ufi m u a = some k := by
  obtain ⟨a1, a2, a3, a4, a5, a6⟩ := h
  constructor
  · intro e
    cases q : ufi m u a with
    | none =>
      have := ffi_none q k hk
      rw [decide_eq_true e] at this
      cases this
    | some f =>
      obtain ⟨f1, f2, f3⟩ := ffi_some q
      have f2' := of_decide_eq_true f2
      rcases (show f < k ∨ f = k ∨ k < f by omega) with g | g | g
      · exact absurd (by rw [f2', e]) ((a6 k hk).2.2.2.2.1 f g)
      · rw [g]
      · exact absurd (by rw [f2', e]) ((a6 f f1).2.2.2.2.1 k g)
  · intro e
    exact of_decide_eq_true (ffi_some e).2.1
theorem sI_sI (h : Hp) (a : Ad) (s : Nat) (v w : Int32) : sI (sI h a s v) a s w = sI h a s w := by
  refine Prod.ext ?_ rfl
  funext b t
  show (if b = a ∧ t = s then w else (if b = a ∧ t = s then v else h.1 b t)) = (if b = a ∧ t = s then w else h.1 b t)
  by_cases z : b = a ∧ t = s
  · rw [if_pos z, if_pos z]
  · rw [if_neg z, if_neg z, if_neg z]
def Vk (m : Hp) (u w : Int64) (a k : Nat) : Int32 := match ufi m u a with
  | none => -1
  | some f => if f < k ∧ gL m (27, 0) f = w then gI m (28, 0) f else -1
theorem log_loop {y m : Hp} {n a : Nat} (hac : AC y m a) (h : rLine y m n) (ha : cl m n + 1 < n) (hf11 : gI m (20, 0) 11 = nI (cl m n + 1)) (h9 : gI m (20, 0) 9 = nI n) : ∃ x, iter m_enterAs_l83 FU ((0 : Int32), sI m (20, 0) 16 (-1 : Int32)) = some x ∧ x.2 = sI m (20, 0) 16 (Vk m (gL m (20, 0) 22) (lN (ND (chs m (cl m n + 1)) (n - (cl m n + 1)))) a a) := by
  obtain ⟨a1, a2, a3, a4, a5, a6⟩ := id hac
  have e2 : ∀ v, m_nameAt (nI (cl m n + 1)) (nI n) (sI m (20, 0) 16 v) = some (lN (ND (chs m (cl m n + 1)) (n - (cl m n + 1)))) := fun v => (argName_eq (c := y) (m := sI m (20, 0) 16 v) h ha).2
  generalize lN (ND (chs m (cl m n + 1)) (n - (cl m n + 1))) = w at e2
  refine iterN (P := fun wt st => ∃ k, st = (nI k, sI m (20, 0) 16 (Vk m (gL m (20, 0) 22) w a k)) ∧ k + wt = a) ?_ FU a _ ⟨0, ?_, by omega⟩ (by show a < 1000; omega)
  · rintro wt st ⟨k, rfl, hk⟩
    have g5 : ∀ v, gI (sI m (20, 0) 16 v) (20, 0) 5 = nI a := fun _ => a3
    have g11 : ∀ v, gI (sI m (20, 0) 16 v) (20, 0) 11 = nI (cl m n + 1) := fun _ => hf11
    have g9 : ∀ v, gI (sI m (20, 0) 16 v) (20, 0) 9 = nI n := fun _ => h9
    have g16 : ∀ v, gI (sI m (20, 0) 16 v) (20, 0) 16 = v := fun _ => rfl
    have g26 : ∀ v, gL (sI m (20, 0) 16 v) (26, 0) k = gL m (26, 0) k := fun _ => rfl
    have g27 : ∀ v, gL (sI m (20, 0) 16 v) (27, 0) k = gL m (27, 0) k := fun _ => rfl
    have g28 : ∀ v, gI (sI m (20, 0) 16 v) (28, 0) k = gI m (28, 0) k := fun _ => rfl
    have g22 : ∀ v, gL (sI m (20, 0) 16 v) (20, 0) 22 = gL m (20, 0) 22 := fun _ => rfl
    have ek : (nI a ≤ nI k) = (a ≤ k) := nle (by omega) (by omega)
    rw [m_enterAs_l83, g5]
    simp only [ek]
    by_cases g : a ≤ k
    · left
      rw [if_pos g]
      exact ⟨_, rfl, by rw [show k = a by omega]⟩
    · right
      have gb : ∀ o : Option Int32, guardB (nI k) 4 o = o := fun o => gB (by omega) (by decide)
      have gb2 : ∀ o : Option ((Int32 × Hp) ⊕ (Int32 × Hp)), guardB (nI k) 4 o = o := fun o => gB (by omega) (by decide)
      have hi := ufi_iff hac (u := gL m (20, 0) 22) (show k < a by omega)
      rw [if_neg g]
      simp only [gb, gb2, clI (show k < 2 ^ 31 by omega), g26, g27, g28, g22, g11, g9, g16, e2, Option.bind_some, nI_1]
      have hv : (if gL m (26, 0) k = gL m (20, 0) 22 then (if gL m (27, 0) k = w then some (gI m (28, 0) k) else some (Vk m (gL m (20, 0) 22) w a k)) else some (Vk m (gL m (20, 0) 22) w a k)) = some (Vk m (gL m (20, 0) 22) w a (k + 1)) := by
        by_cases z : gL m (26, 0) k = gL m (20, 0) 22
        · have q := hi.mp z
          rw [if_pos z]
          unfold Vk
          rw [q]
          show (if gL m (27, 0) k = w then some (gI m (28, 0) k) else some (if k < k ∧ gL m (27, 0) k = w then gI m (28, 0) k else -1)) = some (if k < k + 1 ∧ gL m (27, 0) k = w then gI m (28, 0) k else -1)
          by_cases z2 : gL m (27, 0) k = w
          · rw [if_pos z2, if_pos ⟨by omega, z2⟩]
          · rw [if_neg z2, if_neg (fun t => z2 t.2), if_neg (fun t => z2 t.2)]
        · rw [if_neg z]
          unfold Vk
          cases q : ufi m (gL m (20, 0) 22) a with
          | none => rfl
          | some f =>
            have hfk : f ≠ k := fun t => z (hi.mpr (by rw [q, t]))
            show some (if f < k ∧ gL m (27, 0) f = w then gI m (28, 0) f else -1) = some (if f < k + 1 ∧ gL m (27, 0) f = w then gI m (28, 0) f else -1)
            by_cases z2 : f < k ∧ gL m (27, 0) f = w
            · rw [if_pos z2, if_pos ⟨by omega, z2.2⟩]
            · rw [if_neg z2, if_neg (fun t => z2 ⟨by omega, t.2⟩)]
      rw [hv, Option.bind_some, sI_sI]
      exact ⟨_, wt - 1, by omega, rfl, k + 1, rfl, by omega⟩
  · have : Vk m (gL m (20, 0) 22) w a 0 = -1 := by
      unfold Vk
      cases ufi m (gL m (20, 0) 22) a with
      | none => rfl
      | some f => exact if_neg (fun t => by omega)
    rw [this]; rfl
theorem pass_eq {y m : Hp} {n : Nat} (hy : RelY y m) (h : rLine y m n) (ha : cl m n + 1 < n) (hf11 : gI m (20, 0) 11 = nI (cl m n + 1)) (h9 : gI m (20, 0) 9 = nI n) (hb : gL y (14, 0) 1 = gL m (20, 0) 22) : Res (r_logIn y) (m_enterAs (2 : Int32) m) y m := by
  obtain ⟨hs, hw, hn, hd, ⟨a, hac⟩, hg, he, hk⟩ := id hy
  have hac' : AC y m a := hac
  have e1 := (argName_eq h ha).1
  obtain ⟨x, x1, x2⟩ := log_loop hac' h ha hf11 h9
  have tw : m_enterAs (2 : Int32) m = if gL m (20, 0) 22 = (0 : Int64) then some ((503 : Int32), m) else some ((if 0 ≤ Vk m (gL m (20, 0) 22) (lN (ND (chs m (cl m n + 1)) (n - (cl m n + 1)))) a a then (230 : Int32) else 530), sI (sI m (20, 0) 16 (Vk m (gL m (20, 0) 22) (lN (ND (chs m (cl m n + 1)) (n - (cl m n + 1)))) a a)) (20, 0) 17 (Vk m (gL m (20, 0) 22) (lN (ND (chs m (cl m n + 1)) (n - (cl m n + 1)))) a a)) := by
    rw [m_enterAs, if_neg (by decide), if_neg (by decide), if_neg (by decide)]
    by_cases z : gL m (20, 0) 22 = (0 : Int64)
    · rw [if_pos z, if_pos z]
    · rw [if_neg z, if_neg z, x1, Option.bind_some, x2]
      generalize Vk m (gL m (20, 0) 22) (lN (ND (chs m (cl m n + 1)) (n - (cl m n + 1)))) a a = v
      show (if 0 ≤ v then some (230 : Int32) else some 530).bind (fun t15 => some (t15, sI (sI m (20, 0) 16 v) (20, 0) 17 v)) = _
      by_cases z2 : 0 ≤ v
      · rw [if_pos z2, if_pos z2]; rfl
      · rw [if_neg z2, if_neg z2]; rfl
  have out : RelY (sR (sR y (0, 0) 10 none) (0, 0) 11 none) (sI (sI m (20, 0) 16 (-1 : Int32)) (20, 0) 17 (-1 : Int32)) := ⟨hs, hw, hn, hd, ⟨a, hac⟩, Or.inl ⟨rfl, rfl⟩, he, hk⟩
  by_cases z : gL m (20, 0) 22 = (0 : Int64)
  · refine Res_no (r := 503) (c1 := y) (m1 := m) ?_ ?_ hy (by decide) rfl rfl
    · rw [r_logIn, hb, if_pos z]
    · rw [tw, if_pos z]
  · rw [if_neg z] at tw
    have cw : r_logIn y = (r_accountOf (gL m (20, 0) 22) y).bind fun y2 => if y2 = none then (r_logOut y).bind fun y4 => some ((530 : Int32), y4) else (nda y y2).bind fun x5 => (line_argumentName y).bind fun y6 => if (gL y (15, x5) 1) = y6 then some ((230 : Int32), (sR (sR y (0, 0) 10 (gR y (15, x5) 2)) (0, 0) 11 (gR (sR y (0, 0) 10 (gR y (15, x5) 2)) (15, x5) 2))) else (r_logOut y).bind fun y8 => some ((530 : Int32), y8) := by
      rw [r_logIn, hb, if_neg z]
    rw [accOf_eq hac', Option.bind_some] at cw
    cases q : ufi m (gL m (20, 0) 22) a with
    | none =>
      have hv : Vk m (gL m (20, 0) 22) (lN (ND (chs m (cl m n + 1)) (n - (cl m n + 1)))) a a = -1 := by
        unfold Vk
        rw [q]
      rw [hv, if_neg (by decide)] at tw
      refine Res_no (r := 530) (c1 := sR (sR y (0, 0) 10 none) (0, 0) 11 none) (m1 := _) ?_ tw out (by decide) ?_ ?_
      · rw [cw, q, if_pos rfl]; rfl
      · simp (disch := decide) only [hiP_sI, hiP_sL, hiP_sR]
      · simp (disch := decide) only [loP_sI, loP_sL]
    | some f =>
      obtain ⟨f1, f2, -⟩ := ffi_some q
      obtain ⟨b1, b2, b3, b4, b5, r, r1, r2, r3, r4, r5⟩ := hac'.2.2.2.2.2 f f1
      rw [q, if_neg (show ¬ (some f : Option Nat) = none from fun z => by cases z), nda_ok hac' f1, Option.bind_some, e1, Option.bind_some, b3] at cw
      by_cases z2 : gL m (27, 0) f = lN (ND (chs m (cl m n + 1)) (n - (cl m n + 1)))
      · have hv : Vk m (gL m (20, 0) 22) (lN (ND (chs m (cl m n + 1)) (n - (cl m n + 1)))) a a = nI r := by
          unfold Vk
          rw [q]
          show (if f < a ∧ gL m (27, 0) f = lN (ND (chs m (cl m n + 1)) (n - (cl m n + 1))) then gI m (28, 0) f else -1) = _
          rw [if_pos ⟨f1, z2⟩, r3]
        rw [hv, if_pos (nI_pos' (by omega))] at tw
        have g15 : gR (sR y (0, 0) 10 (some r)) (15, f) 2 = some r := r2
        rw [if_pos z2, r2, g15] at cw
        refine Res_no (r := 230) (c1 := _) (m1 := _) cw tw ⟨hs, hw, hn, hd, ⟨a, hac⟩, Or.inr ⟨r, r, r1, r1, rfl, rfl, rfl, rfl, r4, r5, r4, 0, rfl⟩, he, hk⟩ (by decide) ?_ ?_
        · simp (disch := decide) only [hiP_sI, hiP_sL, hiP_sR]
        · simp (disch := decide) only [loP_sI, loP_sL]
      · have hv : Vk m (gL m (20, 0) 22) (lN (ND (chs m (cl m n + 1)) (n - (cl m n + 1)))) a a = -1 := by
          unfold Vk
          rw [q]
          exact if_neg (fun t => z2 t.2)
        rw [hv, if_neg (by decide)] at tw
        rw [if_neg z2] at cw
        refine Res_no (r := 530) (c1 := sR (sR y (0, 0) 10 none) (0, 0) 11 none) (m1 := _) ?_ tw out (by decide) ?_ ?_
        · rw [cw]; rfl
        · simp (disch := decide) only [hiP_sI, hiP_sL, hiP_sR]
        · simp (disch := decide) only [loP_sI, loP_sL]
theorem letr : ∀ b, b < 127 → 32 ≤ b → ((nI (cap b) = (65 : Int32)) ↔ (¬ nI b < (65 : Int32) ∧ nI b &&& (95 : Int32) = 65)) ∧ ((nI (cap b) = (73 : Int32)) ↔ (¬ nI b < (65 : Int32) ∧ nI b &&& (95 : Int32) = 73)) := by decide +kernel
theorem j80_eq {m : Hp} {x t : Int32} (h : r01 (gI m (20, 0) 18)) (hn : t = 0 ∨ x ≠ 65) : m_prepare_j80 x t m = some (gI m (20, 0) 18) := by
  unfold m_prepare_j80
  rcases h with h | h
  · rw [h, if_pos rfl]
  · rw [h, if_neg one_ne]
    by_cases z : t = 0
    · rw [if_pos z]
    · rw [if_neg z, if_neg (by rcases hn with q | q; exact absurd q z; exact q)]
theorem type_eq {y m : Hp} {n : Nat} (hy : RelY y m) (h : rLine y m n) (ha : cl m n + 1 < n) (hf11 : gI m (20, 0) 11 = nI (cl m n + 1)) (h9 : gI m (20, 0) 9 = nI n) : Res (r_chooseType y) (m_prepare (14 : Int32) m) y m := by
  obtain ⟨⟨s1, s2, ⟨s3, s3b⟩, s4⟩, hw, hn, hd, hac, hg, he, hk⟩ := id hy
  have hnn := h.1
  have e1 : (nI (n - (cl m n + 1)) = (1 : Int32)) = (n = cl m n + 2) := by
    have := neq (n := n - (cl m n + 1)) (k := 1) (by decide) (by omega)
    rw [show (1 : Int32) = nI 1 from rfl, this]
    exact propext (by omega)
  have e2 : (nI n = nI (cl m n + 1) + 1) = (n = cl m n + 2) := by
    rw [nI_1]
    exact neq (by omega) (by omega)
  have gz : ∀ {A : Type} (o : Option A), guardZ (gI m (20, 0) 18) o = o := fun o => by
    rcases s3b with q | q <;> rw [q] <;> rfl
  by_cases g : n = cl m n + 2
  · have hb := ch_b h (j := cl m n + 1) (by omega)
    have hm := ch_m h (j := cl m n + 1) (by omega)
    generalize hbb : chN m (cl m n + 1) = b at hb hm
    obtain ⟨lA, lI⟩ := letr b (by omega) hb.1
    have cw : r_chooseType y = if nI (cap b) = (65 : Int32) then r_chooseType_j49 (nI (cap b)) y else if nI (cap b) = (73 : Int32) then r_chooseType_j49 (nI (cap b)) y else some ((504 : Int32), y) := by
      rw [r_chooseType, argLen_eq h, Option.bind_some, nI_sub (by omega), if_pos (by rw [e1]; exact g), argStart_eq h, Option.bind_some, line_at_in h (by omega), Option.bind_some, hbb, capital (by omega), Option.bind_some, Option.bind_some]
    have tw : m_prepare (14 : Int32) m = (if (if nI b < (65 : Int32) then (0 : Int32) else 1) = 0 then m_prepare_j80 (nI b &&& 95) (if nI b < (65 : Int32) then (0 : Int32) else 1) m else if nI b &&& 95 = (73 : Int32) then some (1 : Int32) else m_prepare_j80 (nI b &&& 95) (if nI b < (65 : Int32) then (0 : Int32) else 1) m).bind fun t25 => guardZ t25 <| (if (if nI b < (65 : Int32) then (0 : Int32) else 1) = 0 then some (504 : Int32) else if nI b &&& 95 = (65 : Int32) then some (200 : Int32) else if nI b &&& 95 = (73 : Int32) then some (200 : Int32) else some (504 : Int32)).bind fun t32 => some (t32, (sI m (20, 0) 18 t25)) := by
      have e3 : (if nI b < (65 : Int32) then some (0 : Int32) else some 1) = some (if nI b < (65 : Int32) then (0 : Int32) else 1) := by
        by_cases q : nI b < (65 : Int32)
        · rw [if_pos q, if_pos q]
        · rw [if_neg q, if_neg q]
      rw [m_prepare, if_pos rfl, h9, hf11, if_pos (by rw [e2]; exact g), if_pos (by rw [e2]; exact g), gB (by omega) (by decide), gB (by omega) (by decide), clI (by omega), hm, Option.bind_some, e3, Option.bind_some]
    by_cases cA : nI (cap b) = (65 : Int32)
    · obtain ⟨p1, p2⟩ := lA.mp cA
      rw [if_neg p1, if_neg one_ne, if_neg one_ne, p2, if_neg (by decide), if_pos rfl] at tw
      have j80 : m_prepare_j80 (65 : Int32) 1 m = some 0 := by
        unfold m_prepare_j80
        rcases s3b with q | q
        · rw [q, if_pos rfl]
        · rw [q, if_neg one_ne, if_neg one_ne, if_pos rfl]
      rw [j80, Option.bind_some, gZ0, Option.bind_some] at tw
      rw [if_pos cA, r_chooseType_j49, cA, if_neg (by decide), Option.bind_some, gZ0] at cw
      refine Res_no (r := 200) cw tw ⟨⟨s1, s2, ⟨rfl, Or.inl rfl⟩, s4⟩, hw, hn, hd, hac, hg, he, hk⟩ (by decide) ?_ ?_
      · simp (disch := decide) only [hiP_sI, hiP_sL, hiP_sR]
      · simp (disch := decide) only [loP_sI, loP_sL]
    · rw [if_neg cA] at cw
      by_cases cI : nI (cap b) = (73 : Int32)
      · obtain ⟨p1, p2⟩ := lI.mp cI
        rw [if_neg p1, if_neg one_ne, if_neg one_ne, p2, if_pos rfl, if_neg (by decide), if_pos rfl, Option.bind_some, gZ1, Option.bind_some] at tw
        rw [if_pos cI, r_chooseType_j49, cI, if_pos rfl, Option.bind_some, gZ1] at cw
        refine Res_no (r := 200) cw tw ⟨⟨s1, s2, ⟨rfl, Or.inr rfl⟩, s4⟩, hw, hn, hd, hac, hg, he, hk⟩ (by decide) ?_ ?_
        · simp (disch := decide) only [hiP_sI, hiP_sL, hiP_sR]
        · simp (disch := decide) only [loP_sI, loP_sL]
      · rw [if_neg cI] at cw
        refine Res_no (r := 504) (c1 := y) (m1 := m) cw ?_ hy (by decide) rfl rfl
        rw [tw]
        by_cases p1 : nI b < (65 : Int32)
        · rw [if_pos p1, if_pos rfl, if_pos rfl, j80_eq s3b (Or.inl rfl), Option.bind_some, gz, Option.bind_some, sI_same]
        · have q1 : ¬ nI b &&& 95 = (65 : Int32) := fun q => cA (lA.mpr ⟨p1, q⟩)
          have q2 : ¬ nI b &&& 95 = (73 : Int32) := fun q => cI (lI.mpr ⟨p1, q⟩)
          rw [if_neg p1, if_neg one_ne, if_neg one_ne, if_neg q2, if_neg q1, if_neg q2, j80_eq s3b (Or.inr q1), Option.bind_some, gz, Option.bind_some, sI_same]
  · refine Res_no (r := 504) (c1 := y) (m1 := m) ?_ ?_ hy (by decide) rfl rfl
    · rw [r_chooseType, argLen_eq h, Option.bind_some, nI_sub (by omega), if_neg (by rw [e1]; exact g), Option.bind_some, if_neg (by decide), if_neg (by decide)]
    · rw [m_prepare, if_pos rfl, h9, hf11, if_neg (by rw [e2]; exact g), if_neg (by rw [e2]; exact g), Option.bind_some, Option.bind_some, if_pos rfl, if_pos rfl, j80_eq s3b (Or.inl rfl), Option.bind_some, gz, Option.bind_some, sI_same]
