/-! walking along a path on both sides -/
def Wk (m : Hp) (n f : Nat) (o : Option Nat) : Nat → Option Nat
  | 0 => o
  | k + 1 => stp m (Wk m n f o k) (pV m n f k)
def drr (m : Hp) (o : Option Nat) : Option Nat := match o with
  | none => none
  | some i => if gI m (21, 0) i = 1 then some i else none
theorem stp_drr {m : Hp} {o : Option Nat} {v : Nat} : stp m (drr m o) v = stp m o v := by
  cases o with
  | none => rfl
  | some i =>
    unfold drr
    simp only
    by_cases k : gI m (21, 0) i = 1
    · rw [if_pos k]
    · rw [if_neg k]
      unfold stp
      simp only
      rw [if_neg k]
theorem stp_dot {m : Hp} {o : Option Nat} : stp m o 50577534877696 = drr m o := by
  cases o with
  | none => rfl
  | some i =>
    unfold stp drr
    simp only [if_true]
theorem drr_ok {m : Hp} {r : Nat} {o : Option Nat} (h : okN m r o) : okN m r (drr m o) := by
  intro j hj
  cases o with
  | none => cases hj
  | some q =>
    unfold drr at hj
    simp only at hj
    by_cases k : gI m (21, 0) q = 1
    · rw [if_pos k] at hj; exact h j hj
    · rw [if_neg k] at hj; cases hj
theorem drr_some {m : Hp} {o : Option Nat} {i : Nat} (h : drr m o = some i) : o = some i ∧ gI m (21, 0) i = 1 := by
  cases o with
  | none => cases h
  | some j =>
    unfold drr at h
    simp only at h
    by_cases k : gI m (21, 0) j = 1
    · rw [if_pos k] at h; cases h; exact ⟨rfl, k⟩
    · rw [if_neg k] at h; cases h
theorem W_ok {c m : Hp} {n f r : Nat} {o : Option Nat} (hn : rNs c m) (hr : par m r = r) (h : okN m r o) : ∀ k, okN m r (Wk m n f o k)
  | 0 => h
  | k + 1 => stp_ok hn hr (W_ok hn hr h k)
/-- where the path leads to -/
def endS (m : Hp) (n f M : Nat) (o : Option Nat) : Option Nat := if 0 < M ∧ sp m n f M = n then drr m (Wk m n f o M) else Wk m n f o M
def dotV (v : Nat) : Prop := v = 50577534877696 ∨ v = 50775103373312
/-- the directory of its place -/
def plD (m : Hp) (n f M : Nat) (o : Option Nat) : Option Nat := if sp m n f M = n ∨ M = 0 ∨ pV m n f (M - 1) = 50577534877696 ∨ pV m n f (M - 1) = 50775103373312 then none else drr m (Wk m n f o (M - 1))
theorem pV_lt {c m : Hp} {n f k : Nat} (h : rLine c m n) (hs : sp m n f k ≤ n) : pV m n f k < 2 ^ 48 := NV_lt (chs_b h (ep_le hs).2)
theorem dotsV_eq {c m h' : Hp} {n f k : Nat} (h : rLine c m n) (hs : sp m n f k ≤ n) : name_isDots (lN (pV m n f k)) h' = some (if pV m n f k = 50577534877696 ∨ pV m n f k = 50775103373312 then 1 else 0) := by
  have e := isDots_eq (b := chs m (sp m n f k)) (n := ep m n (sp m n f k) - sp m n f k) (chs_b h (ep_le hs).2) h'
  rw [pV, e]
  have a1 : (NV (chs m (sp m n f k)) (ep m n (sp m n f k) - sp m n f k) = 50577534877696) = _ := propext NV_dot
  have a2 : (NV (chs m (sp m n f k)) (ep m n (sp m n f k) - sp m n f k) = 50775103373312) = _ := propext NV_dots
  simp only [a1, a2]
  by_cases q : dts (chs m (sp m n f k)) (ep m n (sp m n f k) - sp m n f k) = true
  · simp only [q, true_and]
  · rw [if_neg (fun z => q z.1), if_neg (by rintro (z | z) <;> exact q z.1)]
theorem findPl_eq {c m y : Hp} {n f M r : Nat} {o b : Option Nat} (h : rLine c m n) (hn : rNs y m) (hM : PM m n f M) (hM16 : M ≤ 16) (hP : PH y m n f M) (h3 : gI y (8, 0) 3 = (if 0 < M ∧ sp m n f M = n then 1 else 0)) (ho : okN m r b) (hb : b = if M = 0 then none else Wk m n f o (M - 1)) : ∃ y', path_findPlace b y = some y' ∧ npP y' = npP y ∧ gR y' (8, 0) 4 = gR y (8, 0) 4 ∧ gI y' (8, 0) 3 = gI y (8, 0) 3 ∧ gR y' (8, 0) 5 = plD m n f M o ∧ (plD m n f M o ≠ none → gL y' (8, 0) 6 = lN (pV m n f (M - 1))) := by
  have ny : npP (sL (sR y (8, 0) 5 none) (8, 0) 6 (0 : Int64)) = npP y := by rw [np_sL (Or.inl rfl), np_sR (Or.inl rfl)]
  have n3 : gI (sL (sR y (8, 0) 5 none) (8, 0) 6 (0 : Int64)) (8, 0) 3 = gI y (8, 0) 3 := rfl
  have n1 : gI (sL (sR y (8, 0) 5 none) (8, 0) 6 (0 : Int64)) (8, 0) 1 = nI M := hP.1
  rw [path_findPlace]
  by_cases M0 : M = 0
  · rw [hb, if_pos M0, if_pos rfl]
    have e : plD m n f M o = none := if_pos (Or.inr (Or.inl M0))
    exact ⟨_, rfl, ny, rfl, rfl, by rw [e]; rfl, fun z => absurd e z⟩
  · rw [if_neg M0] at hb
    cases b with
    | none =>
      rw [if_pos rfl]
      have e : plD m n f M o = none := by
        unfold plD
        rw [← hb]
        split <;> rfl
      exact ⟨_, rfl, ny, rfl, rfl, by rw [e]; rfl, fun z => absurd e z⟩
    | some i =>
      obtain ⟨hi, hu, hd⟩ := ho i rfl
      have c1 : ¬ (some i = (none : Option Nat)) := fun z => by cases z
      have nf : gI (sL (sR y (8, 0) 5 none) (8, 0) 6 (0 : Int64)) (5, i) 3 = gI y (5, i) 3 := rfl
      rw [if_neg c1, nd24 hi, Option.bind_some]
      simp only [nf, (rN_dir (hn i hi) hu).1, n3, h3, n1]
      rcases (rN_k (hn i hi)).2.2 with k | k | k
      · exact absurd k hu
      · rw [if_neg (by rw [k]; decide)]
        by_cases s3 : 0 < M ∧ sp m n f M = n
        · rw [if_pos s3, if_neg (by decide)]
          have e : plD m n f M o = none := if_pos (Or.inl s3.2)
          exact ⟨_, rfl, ny, rfl, by rw [n3, h3, if_pos s3], by rw [e]; rfl, fun z => absurd e z⟩
        · rw [if_neg s3, if_pos rfl, if_neg (nI_ne0 (by omega) (by omega)), show nI M - 1 = nI (M - 1) by rw [show (1 : Int32) = nI 1 from rfl, nI_sub (by omega)], gB (by omega) (by decide), clI (by omega)]
          have gl : gL (sL (sR y (8, 0) 5 none) (8, 0) 6 (0 : Int64)) (9, 0) (M - 1) = lN (pV m n f (M - 1)) := hP.2 (M - 1) (by omega)
          rw [gl, dotsV_eq h (Nat.le_of_lt (hM.1 (M - 1) (by omega)).1), Option.bind_some]
          by_cases d : pV m n f (M - 1) = 50577534877696 ∨ pV m n f (M - 1) = 50775103373312
          · rw [if_pos d, if_neg (by decide)]
            have e : plD m n f M o = none := if_pos (Or.inr (Or.inr d))
            exact ⟨_, rfl, ny, rfl, by rw [n3, h3, if_neg s3], by rw [e]; rfl, fun z => absurd e z⟩
          · rw [if_neg d, if_pos rfl]
            have e : plD m n f M o = some i := by
              unfold plD
              rw [if_neg (by rintro (z | z | z); exact s3 ⟨by omega, z⟩; exact M0 z; exact d z), ← hb]
              unfold drr
              simp only
              rw [if_pos k]
            have q1 : gI (sR (sL (sR y (8, 0) 5 none) (8, 0) 6 (0 : Int64)) (8, 0) 5 (some i)) (8, 0) 1 = nI M := hP.1
            have q2 : gL (sR (sL (sR y (8, 0) 5 none) (8, 0) 6 (0 : Int64)) (8, 0) 5 (some i)) (9, 0) (M - 1) = lN (pV m n f (M - 1)) := hP.2 (M - 1) (by omega)
            rw [q1, show nI M - 1 = nI (M - 1) by rw [show (1 : Int32) = nI 1 from rfl, nI_sub (by omega)], gB (by omega) (by decide), clI (by omega), q2]
            refine ⟨_, rfl, ?_, rfl, ?_, by rw [e]; rfl, fun _ => rfl⟩
            · rw [np_sL (Or.inl rfl), np_sR (Or.inl rfl)]; exact ny
            · show gI y (8, 0) 3 = _
              rw [h3, if_neg s3]
      · rw [if_pos k]
        have e : plD m n f M o = none := by
          unfold plD
          rw [← hb]
          split
          · rfl
          · unfold drr
            simp only
            rw [if_neg (by rw [k]; decide)]
        refine ⟨_, rfl, ny, rfl, ?_, by rw [e]; rfl, fun z => absurd e z⟩
        rw [n3, h3]
theorem walk_eq {c m c' : Hp} {n f M r : Nat} {p2 p3 o : Option Nat} (h : rLine c m n) (hn : rNs c' m) (hr : par m r = r) (hM : PM m n f M) (hM16 : M ≤ 16) (hP : PH c' m n f M) (h3 : gI c' (8, 0) 3 = (if 0 < M ∧ sp m n f M = n then 1 else 0)) (hs : o = if gI c' (8, 0) 2 = 0 then p3 else p2) (ho : okN m r o) : ∃ y, path_walk p2 p3 c' = some y ∧ npP y = npP c' ∧ gR y (8, 0) 4 = endS m n f M o ∧ gR y (8, 0) 5 = plD m n f M o ∧ (plD m n f M o ≠ none → gL y (8, 0) 6 = lN (pV m n f (M - 1))) := by
  have e0 : (if gI c' (8, 0) 2 = 0 then some p3 else some p2) = some o := by
    rw [hs]; split <;> rfl
  have key : ∃ x, iter path_walk_l22 FU (none, (0 : Int32), sR c' (8, 0) 4 o) = some x ∧ ∃ y, x = (if M = 0 then none else Wk m n f o (M - 1), nI M, y) ∧ npP y = npP c' ∧ PH y m n f M ∧ gI y (8, 0) 3 = gI c' (8, 0) 3 ∧ gR y (8, 0) 4 = Wk m n f o M := by
    refine iterN (P := fun w st => ∃ k y, st = (if k = 0 then none else Wk m n f o (k - 1), nI k, y) ∧ k + w = M ∧ npP y = npP c' ∧ PH y m n f M ∧ gI y (8, 0) 3 = gI c' (8, 0) 3 ∧ gR y (8, 0) 4 = Wk m n f o k) ?_ FU M _ ⟨0, _, rfl, by omega, by rw [np_sR (Or.inl rfl)], hP, rfl, rfl⟩ (by show M < 1000; omega)
    rintro w st ⟨k, y, rfl, h1, h2, h4, h5, h6⟩
    rw [path_walk_l22, h4.1]
    by_cases g : M ≤ k
    · left
      rw [if_pos (by rw [nle (by omega) (by omega)]; omega)]
      obtain rfl : k = M := by omega
      exact ⟨_, rfl, y, rfl, h2, h4, h5, h6⟩
    · right
      have hy := rNs_np hn h2
      rw [if_neg (by rw [nle (by omega) (by omega)]; omega), gB (by omega) (by decide), clI (by omega), h6, h4.2 k (by omega), step_eq hy (W_ok hn hr ho k) (pV_lt h (Nat.le_of_lt (hM.1 k (by omega)).1)), Option.bind_some, nI_1]
      refine ⟨_, w - 1, by omega, rfl, k + 1, sR y (8, 0) 4 (stp m (Wk m n f o k) (pV m n f k)), ?_, by omega, ?_, h4, h5, rfl⟩
      · rw [if_neg (by omega)]; rfl
      · rw [np_sR (Or.inl rfl)]; exact h2
  obtain ⟨x, ex, y, rfl, k1, k2, k3, k4⟩ := key
  have hb : okN m r (if M = 0 then none else Wk m n f o (M - 1)) := by
    split
    · intro i hi; cases hi
    · exact W_ok hn hr ho _
  have hny := rNs_np hn k1
  obtain ⟨y', f1, f2, f3, f4, f5, f6⟩ := findPl_eq (o := o) h hny hM hM16 k2 (by rw [k3, h3]) hb rfl
  rw [path_walk, e0, Option.bind_some, ex, Option.bind_some]
  show ∃ y_1, ((path_findPlace (if M = 0 then none else Wk m n f o (M - 1)) y).bind fun y7 => (if (gI y7 (8, 0) 3) = 0 then some y7 else (tree_step (gR y7 (8, 0) 4) (50577534877696 : Int64) y7).bind fun y10 => some (sR y7 (8, 0) 4 y10)).bind fun t9 => some t9) = some y_1 ∧ _
  rw [f1, Option.bind_some, f4, k3, h3]
  by_cases s3 : 0 < M ∧ sp m n f M = n
  · have hy' := rNs_np hny f2
    rw [if_pos s3, if_neg (by decide), f3, k4, show (50577534877696 : Int64) = lN 50577534877696 from rfl, step_eq hy' (W_ok hn hr ho M) (by decide), stp_dot]
    refine ⟨_, rfl, ?_, ?_, f5, f6⟩
    · rw [np_sR (Or.inl rfl), f2, k1]
    · unfold endS; rw [if_pos s3]; rfl
  · rw [if_neg s3, if_pos rfl]
    refine ⟨_, rfl, by rw [f2, k1], ?_, f5, f6⟩
    unfold endS; rw [if_neg s3, f3, k4]
theorem W_mono_ok {m : Hp} {n f E K : Nat} (hK : E ≤ sp m n f K) {j : Nat} (h : sp m n f j < E) : j < K := by
  by_cases q : j < K
  · exact q
  · have := sp_mono (m := m) (n := n) (f := f) (k := j) (j := K) (by omega)
    omega
/-- what the twin has come to behind k parts, going to E -/
def LX (m : Hp) (n f E : Nat) (o : Option Nat) (k : Nat) : Option Nat := if k = 0 ∨ E < sp m n f k then Wk m n f o k else drr m (Wk m n f o k)
theorem LX_ok {c m : Hp} {n f E r : Nat} {o : Option Nat} (hn : rNs c m) (hr : par m r = r) (h : okN m r o) (k : Nat) : okN m r (LX m n f E o k) := by
  unfold LX
  split
  · exact W_ok hn hr h k
  · exact drr_ok (W_ok hn hr h k)
theorem stp_LX {m : Hp} {n f E v : Nat} {o : Option Nat} {k : Nat} : stp m (LX m n f E o k) v = stp m (Wk m n f o k) v := by
  unfold LX
  split
  · rfl
  · exact stp_drr
theorem lead_eq {c m : Hp} {n a E K r : Nat} {root cur o : Option Nat} (h : rLine c m n) (hn : rNs c m) (hr : par m r = r) (ha : a < n) (hf : gI m (20, 0) 11 = nI a) (hE : E ≤ n) (hfE : fst0 m a ≤ E) (hK : ∀ j, j < K → sp m n (fst0 m a) j < E ∧ pV m n (fst0 m a) j ≠ 0) (hK2 : E ≤ sp m n (fst0 m a) K) (hro : gI m (20, 0) 16 = on root) (hcu : gI m (20, 0) 17 = on cur) (ho : o = if chN m a = 47 then root else cur) (ok : okN m r o) : m_lead (nI E) m = some (on (LX m n (fst0 m a) E o K)) := by
  obtain ⟨l1, l2, l3, l4⟩ := id h
  have b := ch_b h ha
  have e6 : (nI (chN m a) = (47 : Int32)) = (chN m a = 47) := neq (k := 47) (by decide) (by omega)
  have est : (if nI E ≤ nI a then some (nI a, on cur) else guardB (nI a) 32 (if gI m (29, 0) (nI a).toNatClampNeg = (47 : Int32) then some ((nI a + (1 : Int32)), on root) else some (nI a, on cur))) = some (nI (fst0 m a), on o) := by
    rw [gB (by omega) (by decide), clI (by omega), ch_m h ha]
    simp only [e6, nle (show a < 2 ^ 31 by omega) (show E < 2 ^ 31 by omega)]
    unfold fst0 at *
    rw [ho]
    by_cases q : chN m a = 47
    · rw [if_pos q] at hfE
      rw [if_neg (by omega), if_pos q, if_pos q, if_pos q, nI_1]
    · rw [if_neg q, if_neg q, if_neg q]
      split <;> rfl
  rw [m_lead, hf, hro, hcu, est, Option.bind_some]
  generalize fst0 m a = f at *
  have key : ∃ x, iter (m_lead_l35 (nI E) m) FU (nI f, on o) = some x ∧ x.2 = on (LX m n f E o K) := by
    refine iterN (P := fun w st => ∃ k, st = (nI (sp m n f k), on (LX m n f E o k)) ∧ k + w = K ∧ sp m n f k ≤ n + 1) ?_ FU K _ ⟨0, by unfold LX; rw [if_pos (Or.inl rfl)]; rfl, by omega, by rw [sp]; omega⟩ ?_
    · rintro w st ⟨k, rfl, h1, h2⟩
      rw [m_lead_l35]
      by_cases g : E ≤ sp m n f k
      · left
        rw [if_pos (by rw [nle (by omega) (by omega)]; omega)]
        have : k = K := by
          by_cases q : k < K
          · have := (hK k q).1; omega
          · omega
        exact ⟨_, rfl, by rw [this]⟩
      · right
        have hkK := W_mono_ok hK2 (show sp m n f k < E by omega)
        have hv := (hK k hkK).2
        have he := ep_le (m := m) (show sp m n f k ≤ n by omega)
        have okX := LX_ok (n := n) (f := f) (E := E) hn hr ok k
        have okW := W_ok (n := n) (f := f) hn hr ok (k + 1)
        have go := go_eq h hn okX (show sp m n f k ≤ n by omega) hv
        rw [if_neg (by rw [nle (by omega) (by omega)]; omega), endPart_eq h (by omega), Option.bind_some, go, Option.bind_some, stp_LX, nI_1]
        have eW : stp m (Wk m n f o k) (pV m n f k) = Wk m n f o (k + 1) := rfl
        have es : sp m n f (k + 1) = ep m n (sp m n f k) + 1 := rfl
        rw [eW]
        have ef : (if on (Wk m n f o (k + 1)) < 0 then some (on (Wk m n f o (k + 1))) else if nI E ≤ nI (ep m n (sp m n f k)) then some (on (Wk m n f o (k + 1))) else guardB (on (Wk m n f o (k + 1))) 24 (if gI m (21, 0) (on (Wk m n f o (k + 1))).toNatClampNeg = (1 : Int32) then some (on (Wk m n f o (k + 1))) else some (-1 : Int32))) = some (on (LX m n f E o (k + 1))) := by
          simp only [nle (show ep m n (sp m n f k) < 2 ^ 31 by omega) (show E < 2 ^ 31 by omega)]
          unfold LX
          cases w1 : Wk m n f o (k + 1) with
          | none =>
            rw [if_pos (by decide)]
            split <;> rfl
          | some i =>
            obtain ⟨hi, hu, hd⟩ := okW i w1
            rw [on_s, if_neg (nI_pos (by omega)), gB hi (by decide), clI (by omega)]
            by_cases q : E ≤ ep m n (sp m n f k)
            · rw [if_pos q, if_pos (Or.inr (by omega))]; rfl
            · have hc : ¬ (k + 1 = 0 ∨ E < sp m n f (k + 1)) := by omega
              rw [if_neg q, if_neg hc]
              unfold drr
              simp only
              by_cases k1 : gI m (21, 0) i = 1
              · rw [if_pos k1, if_pos k1]; rfl
              · rw [if_neg k1, if_neg k1]; rfl
        rw [ef, Option.bind_some]
        exact ⟨_, w - 1, by omega, rfl, k + 1, by rw [es], by omega, by omega⟩
    · have : f + 2 * K ≤ sp m n f K := pV_all fun j hj => (hK j hj).2
      show K < 1000
      by_cases q : K = 0
      · omega
      · have h5 := pV_all (m := m) (n := n) (f := f) (k := K - 1) fun j hj => (hK j (by omega)).2
        have := (hK (K - 1) (by omega)).1
        omega
  obtain ⟨x, ex, hx⟩ := key
  rw [ex, Option.bind_some, hx]
