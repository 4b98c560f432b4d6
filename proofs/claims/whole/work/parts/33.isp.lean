/-! the twin's path, and the step from node to node -/
theorem endPart_eq {c m : Hp} {n s : Nat} (h : rLine c m n) (hs : s ≤ n) : m_endOfPart (nI s) m = some (nI (ep m n s)) := by
  obtain ⟨l1, l2, l3, l4⟩ := id h
  have hle := ep_le (m := m) hs
  have key : ∃ x, iter (m_endOfPart_l2 m) FU (nI s) = some x ∧ x = nI (ep m n s) := by
    refine iterN (P := fun w st => ∃ p, st = nI p ∧ p + w = n ∧ s ≤ p ∧ p ≤ ep m n s) ?_ FU (n - s) _ ⟨s, rfl, by omega, Nat.le_refl _, hle.1⟩ (by show n - s < 1000; omega)
    rintro w st ⟨p, rfl, h1, h2, h3⟩
    rw [m_endOfPart_l2, l3]
    by_cases g : n ≤ p
    · left
      rw [if_pos (by rw [nle (by omega) (by omega)]; omega)]
      exact ⟨_, rfl, by rw [show p = ep m n s by omega]⟩
    · have b := ch_b h (show p < n by omega)
      rw [if_neg (by rw [nle (by omega) (by omega)]; omega), gB (by omega) (by decide), clI (by omega), ch_m h (by omega)]
      have e6 : (nI (chN m p) = (47 : Int32)) = (chN m p = 47) := neq (k := 47) (by decide) (by omega)
      simp only [e6]
      by_cases z : chN m p = 47
      · left
        rw [if_pos z]
        refine ⟨_, rfl, ?_⟩
        by_cases q : p < ep m n s
        · exact absurd z (ep_bf h2 q)
        · rw [show p = ep m n s by omega]
      · right
        rw [if_neg z, nI_1]
        refine ⟨_, w - 1, by omega, rfl, p + 1, rfl, by omega, by omega, ?_⟩
        by_cases q : p = ep m n s
        · exact absurd (by rw [q]; exact ep_at (by omega) hs) z
        · omega
  obtain ⟨x, e, rfl⟩ := key
  rw [m_endOfPart, e]; rfl
theorem nI_gt {a : Nat} (h : 0 < a) (h2 : a < 2 ^ 31) : 0 < nI a := (nI_ltI (a := 0) (by decide) h2).mpr h
theorem ND_NV {b : Nat → Nat} {n : Nat} (h : ¬ (dts b n = true ∧ n < 3)) : ND b n = NV b n := by rw [ND, if_neg h]
theorem part_ok {b : Nat → Nat} {n : Nat} : (0 < n ∧ dts b n = true ∧ n < 3) ∨ ND b n ≠ 0 ↔ NV b n ≠ 0 := by
  by_cases d : dts b n = true ∧ n < 3
  · have e : ND b n = 0 := by rw [ND, if_pos d]
    rw [e]
    constructor
    · rintro (z | z)
      · exact NV_of (by omega) (by omega) (dts_okn d.1)
      · exact absurd rfl z
    · exact fun z => Or.inl ⟨(NV_ne z).1, d⟩
  · rw [ND_NV d]
    constructor
    · rintro (z | z)
      · exact absurd z.2 d
      · exact z
    · exact Or.inr
theorem isPath_eq {c m : Hp} {n a : Nat} (h : rLine c m n) (ha : a < n) (hf : gI m (20, 0) 11 = nI a) : ∃ r, m_isPath m = some r ∧ ((r = 1 ∧ ∃ M, PM m n (fst0 m a) M) ∨ (r = 0 ∧ ∃ j, sp m n (fst0 m a) j < n ∧ pV m n (fst0 m a) j = 0)) := by
  obtain ⟨l1, l2, l3, l4⟩ := id h
  have b := ch_b h ha
  have e6 : (nI (chN m a) = (47 : Int32)) = (chN m a = 47) := neq (k := 47) (by decide) (by omega)
  rw [m_isPath, hf, gB (by omega) (by decide), clI (by omega), ch_m h ha]
  simp only [e6]
  have es : (if chN m a = 47 then some (nI a + 1) else some (nI a)) = some (nI (fst0 m a)) := by
    rw [fst0]
    by_cases q : chN m a = 47
    · rw [if_pos q, if_pos q, nI_1]
    · rw [if_neg q, if_neg q]
  have hf : fst0 m a ≤ n := by unfold fst0; split <;> omega
  rw [es, Option.bind_some]
  generalize fst0 m a = f at hf
  have key : ∃ x, iter (m_isPath_l30 m) FU (nI f, (1 : Int32)) = some x ∧ ((x.2 = 1 ∧ ∃ M, PM m n f M) ∨ (x.2 = 0 ∧ ∃ j, sp m n f j < n ∧ pV m n f j = 0)) := by
    refine iterN (P := fun w st => ∃ k o, st = (nI (sp m n f k), o) ∧ n + 2 ≤ sp m n f k + w ∧ sp m n f k ≤ n + 1 ∧ ((o = 1 ∧ ∀ j, j < k → sp m n f j < n ∧ pV m n f j ≠ 0) ∨ (o = 0 ∧ ∃ j, sp m n f j < n ∧ pV m n f j = 0))) ?_ FU (n + 2) _ ⟨0, 1, rfl, by omega, by rw [sp]; omega, Or.inl ⟨rfl, fun j hj => by omega⟩⟩ (by show n + 2 < 1000; omega)
    rintro w st ⟨k, o, rfl, h1, h2, h3⟩
    rw [m_isPath_l30, l3]
    by_cases g : n ≤ sp m n f k
    · left
      rw [if_pos (by rw [nle (by omega) (by omega)]; omega)]
      refine ⟨_, rfl, ?_⟩
      rcases h3 with ⟨h3, h4⟩ | h3
      · exact Or.inl ⟨h3, k, h4, g⟩
      · exact Or.inr h3
    · rw [if_neg (by rw [nle (by omega) (by omega)]; omega)]
      rcases h3 with ⟨rfl, h4⟩ | ⟨rfl, h3⟩
      · right
        have he := ep_le (m := m) (show sp m n f k ≤ n by omega)
        rw [if_neg (by decide), endPart_eq h (by omega), Option.bind_some, mDots_eq h he.1 he.2, Option.bind_some, nameAt_eq h he.1 he.2, nI_1]
        have hlt := ND_lt (b := chs m (sp m n f k)) (n := ep m n (sp m n f k) - sp m n f k) (chs_b h he.2)
        have e1 : (lN (ND (chs m (sp m n f k)) (ep m n (sp m n f k) - sp m n f k)) = (0 : Int64)) = (ND (chs m (sp m n f k)) (ep m n (sp m n f k) - sp m n f k) = 0) := propext (lN_inj (b := 0) (by omega) (by decide))
        have po : (0 < ep m n (sp m n f k) - sp m n f k ∧ dts (chs m (sp m n f k)) (ep m n (sp m n f k) - sp m n f k) = true ∧ ep m n (sp m n f k) - sp m n f k < 3) ∨ ND (chs m (sp m n f k)) (ep m n (sp m n f k) - sp m n f k) ≠ 0 ↔ pV m n f k ≠ 0 := part_ok
        have ev : (if 0 < (if dts (chs m (sp m n f k)) (ep m n (sp m n f k) - sp m n f k) = true ∧ ep m n (sp m n f k) - sp m n f k < 3 then nI (ep m n (sp m n f k) - sp m n f k) else 0) then some (1 : Int32) else (some (lN (ND (chs m (sp m n f k)) (ep m n (sp m n f k) - sp m n f k)))).bind fun y10 => if y10 = (0 : Int64) then some (0 : Int32) else some (1 : Int32)) = some (if pV m n f k ≠ 0 then (1 : Int32) else 0) := by
          rw [Option.bind_some]
          simp only [e1]
          by_cases d : 0 < ep m n (sp m n f k) - sp m n f k ∧ dts (chs m (sp m n f k)) (ep m n (sp m n f k) - sp m n f k) = true ∧ ep m n (sp m n f k) - sp m n f k < 3
          · rw [if_pos d.2, if_pos (nI_gt d.1 (by omega)), if_pos (po.mp (Or.inl d))]
          · have nz : ¬ 0 < (if dts (chs m (sp m n f k)) (ep m n (sp m n f k) - sp m n f k) = true ∧ ep m n (sp m n f k) - sp m n f k < 3 then nI (ep m n (sp m n f k) - sp m n f k) else 0) := by
              by_cases w : dts (chs m (sp m n f k)) (ep m n (sp m n f k) - sp m n f k) = true ∧ ep m n (sp m n f k) - sp m n f k < 3
              · have : ep m n (sp m n f k) - sp m n f k = 0 := by
                  by_cases v : ep m n (sp m n f k) - sp m n f k = 0
                  · exact v
                  · exact absurd ⟨by omega, w⟩ d
                rw [if_pos w, this]; decide
              · rw [if_neg w]; decide
            rw [if_neg nz]
            by_cases w : ND (chs m (sp m n f k)) (ep m n (sp m n f k) - sp m n f k) = 0
            · rw [if_pos w, if_neg]
              intro z
              rcases po.mpr z with y | y
              · exact d y
              · exact y w
            · rw [if_neg w, if_pos (po.mp (Or.inr w))]
        rw [ev, Option.bind_some]
        refine ⟨_, w - 1, by omega, rfl, k + 1, _, rfl, ?_, ?_, ?_⟩
        · have := sp_step (m := m) (n := n) (f := f) (k := k); omega
        · rw [sp]; omega
        · by_cases v : pV m n f k = 0
          · right
            rw [if_neg (fun z => z v)]
            exact ⟨rfl, k, by omega, v⟩
          · left
            rw [if_pos v]
            refine ⟨rfl, fun j hj => ?_⟩
            by_cases e : j = k
            · rw [e]; exact ⟨by omega, v⟩
            · exact h4 j (by omega)
      · left
        rw [if_pos rfl]
        exact ⟨_, rfl, Or.inr ⟨rfl, h3⟩⟩
  obtain ⟨x, ex, hx⟩ := key
  rw [ex, Option.bind_some]
  rcases hx with ⟨h1, h2⟩ | ⟨h1, h2⟩
  · exact ⟨1, by rw [h1]; rfl, Or.inl ⟨rfl, h2⟩⟩
  · exact ⟨0, by rw [h1]; rfl, Or.inr ⟨rfl, h2⟩⟩
/-- a step from a node, as the twin sees it -/
def stp (m : Hp) (o : Option Nat) (v : Nat) : Option Nat := match o with
  | none => none
  | some i => if gI m (21, 0) i = 1 then (if v = 50577534877696 then some i else if v = 50775103373312 then some (par m i) else ffi (chB m i (lN v)) 24) else none
def okN (m : Hp) (r : Nat) (o : Option Nat) : Prop := ∀ i, o = some i → i < 24 ∧ gI m (21, 0) i ≠ 0 ∧ under m i r
theorem par_nI {m : Hp} {i p : Nat} (h : gI m (22, 0) i = nI p) (hp : p < 24) : par m i = p := by
  unfold par
  rw [h, clI (by omega)]
theorem under_par {m : Hp} {i r : Nat} (hr : par m r = r) (h : under m i r) : under m (par m i) r := by
  obtain ⟨k, hk⟩ := h
  cases k with
  | zero => rw [up] at hk; rw [hk, hr]; exact ⟨0, rfl⟩
  | succ k => exact ⟨k, hk⟩
theorem rP_par {c m : Hp} {i : Nat} (h : rP c m i) (hi : i < 24) : par m i < 24 ∧ gI m (22, 0) i = nI (par m i) ∧ gI m (21, 0) (par m i) = 1 ∧ (gR c (5, i) 5 = none ↔ par m i = i) ∧ (par m i ≠ i → gR c (5, i) 5 = some (par m i)) := by
  rcases h with ⟨h1, h2, h3⟩ | ⟨p, h1, h2, h3, h4, h5, h6⟩
  · have e := par_nI h2 hi
    rw [e]
    exact ⟨hi, h2, h3, ⟨fun _ => rfl, fun _ => h1⟩, fun z => absurd rfl z⟩
  · have e := par_nI h4 h1
    rw [e]
    exact ⟨h1, h4, h5, ⟨(fun z => by rw [h3] at z; cases z), fun z => absurd z h2⟩, fun _ => h3⟩
theorem stp_ok {c m : Hp} {r : Nat} {o : Option Nat} {v : Nat} (hn : rNs c m) (hr : par m r = r) (h : okN m r o) : okN m r (stp m o v) := by
  intro j hj
  cases o with
  | none => cases hj
  | some i =>
    obtain ⟨hi, hu, hd⟩ := h i rfl
    unfold stp at hj
    simp only at hj
    by_cases k : gI m (21, 0) i = 1
    · rw [if_pos k] at hj
      by_cases a : v = 50577534877696
      · rw [if_pos a] at hj; cases hj; exact ⟨hi, hu, hd⟩
      · rw [if_neg a] at hj
        by_cases b : v = 50775103373312
        · rw [if_pos b] at hj
          cases hj
          obtain ⟨p1, p2, p3, -⟩ := rP_par (rN_P (hn i hi) hu) hi
          exact ⟨p1, by rw [p3]; decide, under_par hr hd⟩
        · rw [if_neg b] at hj
          obtain ⟨q1, q2, -⟩ := ffi_some hj
          obtain ⟨q3, q4⟩ := chB_iff.mp q2
          refine ⟨q1, q3.1, ?_⟩
          obtain ⟨w, hw⟩ := hd
          exact ⟨w + 1, by rw [up, par_nI q3.2.1 hi]; exact hw⟩
    · rw [if_neg k] at hj; cases hj
theorem step_eq {c m : Hp} {r : Nat} {o : Option Nat} {v : Nat} (hn : rNs c m) (h : okN m r o) (hv : v < 2 ^ 48) : tree_step o (lN v) c = some (stp m o v) := by
  cases o with
  | none => rw [tree_step, if_pos rfl]; rfl
  | some i =>
    obtain ⟨hi, hu, hd⟩ := h i rfl
    have c1 : ¬ (some i = (none : Option Nat)) := fun z => by cases z
    rw [tree_step, if_neg c1, nd24 hi, Option.bind_some]
    unfold stp
    have e1 : (lN v = (50577534877696 : Int64)) = (v = 50577534877696) := propext (lN_inj (b := 50577534877696) (by omega) (by decide))
    have e2 : (lN v = (50775103373312 : Int64)) = (v = 50775103373312) := propext (lN_inj (b := 50775103373312) (by omega) (by decide))
    simp only [e1, e2, (rN_dir (hn i hi) hu).1]
    obtain ⟨p1, p2, p3, p4, p5⟩ := rP_par (rN_P (hn i hi) hu) hi
    rcases (rN_k (hn i hi)).2.2 with k | k | k
    · exact absurd k hu
    · rw [if_neg (by rw [k]; decide), if_pos k]
      by_cases a : v = 50577534877696
      · rw [if_pos a, if_pos a]
      · rw [if_neg a, if_neg a]
        by_cases b : v = 50775103373312
        · rw [if_pos b, if_pos b]
          by_cases g : par m i = i
          · rw [if_pos (p4.mpr g), g]; rfl
          · rw [if_neg (fun z => g (p4.mp z)), p5 g]; rfl
        · rw [if_neg b, if_neg b, (child_eq hn hi).1]; rfl
    · rw [if_pos k, if_neg (by rw [k]; decide)]
theorem pV_dot {m : Hp} {n f k : Nat} : pV m n f k = 50577534877696 ↔ dts (chs m (sp m n f k)) (ep m n (sp m n f k) - sp m n f k) = true ∧ ep m n (sp m n f k) - sp m n f k = 1 := NV_dot
theorem pV_dots {m : Hp} {n f k : Nat} : pV m n f k = 50775103373312 ↔ dts (chs m (sp m n f k)) (ep m n (sp m n f k) - sp m n f k) = true ∧ ep m n (sp m n f k) - sp m n f k = 2 := NV_dots
theorem go_eq {c m : Hp} {n f k r : Nat} {o : Option Nat} (h : rLine c m n) (hn : rNs c m) (ho : okN m r o) (hs : sp m n f k ≤ n) (hv : pV m n f k ≠ 0) : m_go (on o) (nI (sp m n f k)) (nI (ep m n (sp m n f k))) m = some (on (stp m o (pV m n f k))) := by
  have he := ep_le (m := m) hs
  have hl1 := h.1
  cases o with
  | none => rw [m_go, if_pos (by decide)]; rfl
  | some i =>
    obtain ⟨hi, hu, hd⟩ := ho i rfl
    obtain ⟨p1, p2, p3, p4, p5⟩ := rP_par (rN_P (hn i hi) hu) hi
    rw [on_s, m_go, if_neg (nI_pos (by omega)), gB hi (by decide), gB hi (by decide), clI (by omega)]
    unfold stp
    simp only []
    by_cases k1 : gI m (21, 0) i = 1
    · rw [if_pos k1, if_pos k1, mDots_eq h he.1 he.2, Option.bind_some]
      have hne := NV_ne hv
      by_cases a : pV m n f k = 50577534877696
      · obtain ⟨a1, a2⟩ := pV_dot.mp a
        have ey : (if dts (chs m (sp m n f k)) (ep m n (sp m n f k) - sp m n f k) = true ∧ ep m n (sp m n f k) - sp m n f k < 3 then nI (ep m n (sp m n f k) - sp m n f k) else 0) = 1 := by
          rw [if_pos ⟨a1, by omega⟩, a2]; rfl
        rw [ey, if_pos rfl, if_pos a]; rfl
      · rw [if_neg a]
        by_cases b : pV m n f k = 50775103373312
        · obtain ⟨a1, a2⟩ := pV_dots.mp b
          have ey : (if dts (chs m (sp m n f k)) (ep m n (sp m n f k) - sp m n f k) = true ∧ ep m n (sp m n f k) - sp m n f k < 3 then nI (ep m n (sp m n f k) - sp m n f k) else 0) = 2 := by
            rw [if_pos ⟨a1, by omega⟩, a2]; rfl
          rw [ey, if_neg (by decide), if_pos rfl, if_pos b, p2]; rfl
        · have nd : ¬ (dts (chs m (sp m n f k)) (ep m n (sp m n f k) - sp m n f k) = true ∧ ep m n (sp m n f k) - sp m n f k < 3) := fun z => by
            by_cases w : ep m n (sp m n f k) - sp m n f k = 1
            · exact a (pV_dot.mpr ⟨z.1, w⟩)
            · exact b (pV_dots.mpr ⟨z.1, by omega⟩)
          have ey : (if dts (chs m (sp m n f k)) (ep m n (sp m n f k) - sp m n f k) = true ∧ ep m n (sp m n f k) - sp m n f k < 3 then nI (ep m n (sp m n f k) - sp m n f k) else 0) = 0 := if_neg nd
          rw [ey, if_neg (by decide), if_neg (by decide), if_neg b, nameAt_eq h he.1 he.2, Option.bind_some, ND_NV nd, (child_eq hn hi).2]
          rfl
    · rw [if_neg k1, if_neg k1]; rfl
