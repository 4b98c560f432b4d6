/-! what a command leaves on both sides, and what a path tells it -/
def txt (c m : Hp) : Prop := ∃ len, len ≤ 168 ∧ gI m (20, 0) 14 = nI len ∧ gI c (10, 0) 1 = nI (168 - len) ∧ ∀ j, j < len → gI c (11, 0) (168 - len + j) = gI m (30, 0) j ∧ isB (gI m (30, 0) j)
def RelY (c m : Hp) : Prop := rSt c m ∧ rWay c m ∧ rNs c m ∧ rD m ∧ rAcc c m ∧ rLog c m ∧ rMem c m ∧ rCar c m
def Res (x y : Option (Int32 × Hp)) (c m : Hp) : Prop := ∃ r c' m', x = some (r, c') ∧ y = some (r, m') ∧ RelY c' m' ∧ (r = 257 ∨ r = 213 → txt c' m') ∧ hiP c' = hiP c ∧ loP m' = loP m
theorem Rel_Y {c m : Hp} (h : Rel c m) : RelY c m := by
  obtain ⟨-, a, b, -, r⟩ := h
  exact ⟨a, b, r⟩
theorem Res_no {c m c1 m1 : Hp} {x y : Option (Int32 × Hp)} {r : Int32} (e1 : x = some (r, c1)) (e2 : y = some (r, m1)) (h : RelY c1 m1) (hr : r ≠ 257 ∧ r ≠ 213) (hh : hiP c1 = hiP c) (hl : loP m1 = loP m) : Res x y c m := ⟨r, c1, m1, e1, e2, h, fun z => by
  rcases z with z | z
  · exact absurd z hr.1
  · exact absurd z hr.2, hh, hl⟩
theorem npM_hi {c c' : Hp} (e : npM c' = npM c) : hiP c' = hiP c := by
  have k : ∀ h, hiP (npM h) = hiP h := fun h => by
    unfold hiP npM
    simp only [Prod.mk.injEq, and_true]
    funext a s
    by_cases q : a.1 < 20
    · rw [if_pos q, if_pos q]
    · rw [if_neg q, if_neg q, if_neg (by omega)]
  rw [← k c', ← k c, e]
theorem npW_lo {m m' : Hp} (e : npW m' = npW m) : loP m' = loP m := by
  have k : ∀ h, loP (npW h) = loP h := fun h => by
    unfold loP npW
    simp only [Prod.mk.injEq, and_true]
    funext a s
    by_cases q : a.1 < 20
    · rw [if_pos q, if_pos q, if_neg]
      rintro (⟨rfl, -⟩ | rfl)
      · exact absurd q (by decide)
      · exact absurd q (by decide)
    · rw [if_neg q, if_neg q]
  rw [← k m', ← k m, e]
theorem Y_np {c c' m : Hp} (h : RelY c m) (e : npP c' = npP c) : RelY c' m := by
  have h1 : RelY (npP c) m := h
  rw [← e] at h1
  exact h1
theorem Y_M {c c' m : Hp} (h : RelY c m) (e : npM c' = npM c) : RelY c' m := by
  have h1 : RelY (npM c) m := h
  rw [← e] at h1
  exact h1
theorem Y_W {c m m' : Hp} (h : RelY c m) (e : npW m' = npW m) : RelY c m' := by
  have h1 : RelY c (npW m) := h
  rw [← e] at h1
  exact h1
theorem getD_mem {L : List Nat} {j : Nat} (hj : j < L.length) : L.getD j 0 ∈ L := by
  have e : L.getD j 0 = L[j] := by simp [List.getD, hj]
  rw [e]
  exact List.getElem_mem hj
theorem txt_of {c m : Hp} {L : List Nat} (h1 : MSt c L) (h2 : WSt m L) (hb : ∀ x, x ∈ L → x < 256) : txt c m := ⟨L.length, h1.1, h2.2.1, h1.2.1, fun j hj => ⟨by rw [h1.2.2 j hj, h2.2.2 j hj], by rw [h2.2.2 j hj]; exact ⟨_, hb _ (getD_mem hj), rfl⟩⟩⟩
theorem wyD_lt (m : Hp) (D t : Nat) : ∀ x, x ∈ (if D = 0 then [47] else wy m D t) → x < 256 := by
  intro x hx
  by_cases z : D = 0
  · rw [if_pos z, List.mem_singleton] at hx
    rw [hx]; decide
  · rw [if_neg z] at hx
    exact wy_lt m D t x hx
/-- the way is spelled alike on both sides -/
theorem way_eq {c m : Hp} {t r : Nat} (hy : RelY c m) (ht : t < 24) (hu : gI m (21, 0) t ≠ 0) (hr : par m r = r) (hro : gI m (20, 0) 16 = nI r) (h : under m t r) : ∃ c' m', msg_spellPath (some t) c = some c' ∧ m_writeWay (nI t) m = some m' ∧ txt c' m' ∧ npM c' = npM c ∧ npW m' = npW m := by
  obtain ⟨hs, hw, hn, hd, hz⟩ := hy
  obtain ⟨D, w⟩ := way_of hn ht hu hr h
  obtain ⟨hD, -⟩ := way_D hd w
  obtain ⟨c', a1, a2, a3⟩ := spell_eq hn w hr hD
  obtain ⟨m', b1, b2, b3⟩ := wway_eq hn hd w hr hro
  exact ⟨c', m', a1, b1, txt_of a2 b2 (wyD_lt m D t), a3, b3⟩
/-- logged in: root r, current q -/
def LG (c m : Hp) (r q : Nat) : Prop := r < 24 ∧ q < 24 ∧ gR c (0, 0) 10 = some r ∧ gI m (20, 0) 16 = nI r ∧ gR c (0, 0) 11 = some q ∧ gI m (20, 0) 17 = nI q ∧ gI m (21, 0) r = 1 ∧ gI m (22, 0) r = nI r ∧ gI m (21, 0) q = 1 ∧ under m q r
theorem LG_np {c c' m : Hp} {r q : Nat} (h : LG c m r q) (e : npP c' = npP c) : LG c' m r q := by
  have h1 : LG (npP c) m r q := h
  rw [← e] at h1
  exact h1
def PF (y m : Hp) (r v : Nat) (E P : Option Nat) : Prop := gR y (8, 0) 4 = E ∧ gR y (8, 0) 5 = P ∧ (P ≠ none → gL y (8, 0) 6 = lN v) ∧ okN m r E ∧ ∀ p, P = some p → p < 24 ∧ gI m (21, 0) p = 1 ∧ under m p r ∧ E = ffi (chB m p (lN v)) 24 ∧ wfN (lN v)
def MF (m : Hp) (n v : Nat) (E P : Option Nat) : Prop := m_lead (nI n) m = some (on E) ∧ ∃ nm pin, m_findPlace m = some (if P = none then 0 else 1, sI (sL m (20, 0) 35 nm) (20, 0) 34 pin) ∧ (P ≠ none → pin = on P ∧ nm = lN v)
theorem PM16 {c m : Hp} {n a M : Nat} (h : rLine c m n) (hM : PM m n (fst0 m a) M) : M ≤ 16 := by
  have hn := h.1
  by_cases z : M = 0
  · omega
  · have h1 := pV_all (k := M - 1) fun j hj => (hM.1 j (by omega)).2
    have h2 := (hM.1 (M - 1) (by omega)).1
    omega
theorem LX_end {m : Hp} {n f M : Nat} {o : Option Nat} (h : n ≤ sp m n f M) : LX m n f n o M = endS m n f M o := by
  unfold LX endS
  by_cases z : M = 0
  · rw [if_pos (Or.inl z), if_neg (fun k => by omega)]
  · by_cases z2 : sp m n f M = n
    · rw [if_neg (by omega), if_pos ⟨by omega, z2⟩]
    · rw [if_pos (by omega), if_neg (fun k => z2 k.2)]
theorem path_facts {c m : Hp} {n a r q : Nat} (h : rLine c m n) (hn : rNs c m) (hg : LG c m r q) (ha : a < n) (hf : gI m (20, 0) 11 = nI a) (hp : pI c m n a) : ∃ y E P v, path_walk (gR c (0, 0) 10) (gR c (0, 0) 11) c = some y ∧ npP y = npP c ∧ PF y m r v E P ∧ MF m n v E P := by
  obtain ⟨M, p1, p2, p3, p4⟩ := hp
  obtain ⟨l1, l2, l3, l4, l5, l6, l7, l8, l9, l10⟩ := hg
  have hM16 := PM16 h p1
  have hr : par m r = r := par_nI l8 l1
  have kr : gI m (21, 0) r ≠ 0 := by rw [l7]; decide
  have kq : gI m (21, 0) q ≠ 0 := by rw [l9]; decide
  have ok : okN m r (if chN m a = 47 then some r else some q) := by
    intro i hi
    by_cases z : chN m a = 47
    · rw [if_pos z] at hi
      cases hi
      exact ⟨l1, kr, 0, rfl⟩
    · rw [if_neg z] at hi
      cases hi
      exact ⟨l2, kq, l10⟩
  have hod : drr m (if chN m a = 47 then some r else some q) = (if chN m a = 47 then some r else some q) := by
    by_cases z : chN m a = 47
    · rw [if_pos z]
      exact if_pos l7
    · rw [if_neg z]
      exact if_pos l9
  obtain ⟨y, w1, w2, w3, w4, w5⟩ := walk_eq (p2 := gR c (0, 0) 10) (p3 := gR c (0, 0) 11) (o := if chN m a = 47 then some r else some q) h hn hr p1 hM16 p2 p4 (by
    rw [p3, l3, l5]
    by_cases z : chN m a = 47
    · rw [if_pos z, if_pos z, if_neg (by decide)]
    · rw [if_neg z, if_neg z, if_pos rfl]) ok
  have ld := lead_eq (E := n) (K := M) (root := some r) (cur := some q) h hn hr ha hf (Nat.le_refl n) (f_le ha).2 p1.1 p1.2 l4 l6 rfl ok
  obtain ⟨nm, pin, f1, f2⟩ := place_eq (root := some r) (cur := some q) h hn hr ha hf p1 l4 l6 rfl ok hod
  have hE : LX m n (fst0 m a) n (if chN m a = 47 then some r else some q) M = endS m n (fst0 m a) M (if chN m a = 47 then some r else some q) := LX_end p1.2
  rw [hE] at ld
  refine ⟨y, _, _, pV m n (fst0 m a) (M - 1), w1, w2, ⟨w3, w4, w5, ?_, ?_⟩, ld, nm, pin, f1, fun z => ⟨(f2 z).1, (f2 z).2.1⟩⟩
  · rw [← hE]
    exact LX_ok hn hr ok M
  · intro p hp
    have hw := W_ok (n := n) (f := fst0 m a) hn hr ok (M - 1)
    have hwf := (f2 (by rw [hp]; exact fun z => by cases z)).2
    unfold plD at hp
    by_cases z : sp m n (fst0 m a) M = n ∨ M = 0 ∨ pV m n (fst0 m a) (M - 1) = 50577534877696 ∨ pV m n (fst0 m a) (M - 1) = 50775103373312
    · rw [if_pos z] at hp; cases hp
    · rw [if_neg z] at hp
      obtain ⟨d1, d2⟩ := drr_some hp
      obtain ⟨o1, o2, o3⟩ := hw p d1
      refine ⟨o1, d2, o3, ?_, by rw [← hwf.1]; exact hwf.2⟩
      unfold endS
      rw [if_neg (fun k => z (Or.inl k.2))]
      have hM1 : M = (M - 1) + 1 := by omega
      rw [hM1, Wk, show M - 1 + 1 - 1 = M - 1 by omega, d1]
      show (if gI m (21, 0) p = 1 then (if pV m n (fst0 m a) (M - 1) = 50577534877696 then some p else if pV m n (fst0 m a) (M - 1) = 50775103373312 then some (par m p) else ffi (chB m p (lN (pV m n (fst0 m a) (M - 1)))) 24) else none) = _
      rw [if_pos d2, if_neg (fun k => z (Or.inr (Or.inr (Or.inl k)))), if_neg (fun k => z (Or.inr (Or.inr (Or.inr k))))]
theorem path_none {c m : Hp} {n r q : Nat} (h : rLine c m n) (hn : rNs c m) (hg : LG c m r q) (h1 : gI c (8, 0) 1 = 0) (h2 : gI c (8, 0) 2 = 0) (h3 : gI c (8, 0) 3 = 0) : ∃ y, path_walk (gR c (0, 0) 10) (gR c (0, 0) 11) c = some y ∧ npP y = npP c ∧ gR y (8, 0) 4 = some q := by
  obtain ⟨l1, l2, l3, l4, l5, l6, l7, l8, l9, l10⟩ := hg
  have ok : okN m r (some q) := by
    intro i hi
    cases hi
    exact ⟨l2, by rw [l9]; decide, l10⟩
  obtain ⟨y, w1, w2, w3, -, -⟩ := walk_eq (n := n) (f := n) (M := 0) (p2 := gR c (0, 0) 10) (p3 := gR c (0, 0) 11) (o := some q) h hn (par_nI l8 l1) ⟨fun j hj => by omega, by rw [sp]; exact Nat.le_refl _⟩ (by decide) ⟨h1, fun k hk => by omega⟩ (by rw [h3, if_neg (fun k => by omega)]) (by rw [h2, if_pos rfl, l5]) ok
  exact ⟨y, w1, w2, by rw [w3]; unfold endS; rw [if_neg (fun k => by omega)]; rfl⟩
