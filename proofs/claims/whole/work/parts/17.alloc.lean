def guardN {α : Type} (t i : Nat) (h : Hp) (o : Option α) : Option α := if unp (gn h) = (t, i) then o else none
theorem guardN_some {α : Type} {t i : Nat} {h : Hp} {o : Option α} {r : α} (hh : guardN t i h o = some r) : unp (gn h) = (t, i) ∧ o = some r := by
  unfold guardN at hh
  by_cases q : unp (gn h) = (t, i)
  · rw [if_pos q] at hh; exact ⟨q, hh⟩
  · rw [if_neg q] at hh; cases hh
def newx (t : Nat) (h : Hp) : Option Nat := if (unp (gn h)).1 = t then some (unp (gn h)).2 else none
theorem newx_some {t i : Nat} {h : Hp} (hh : newx t h = some i) : unp (gn h) = (t, i) := by
  unfold newx at hh
  by_cases q : (unp (gn h)).1 = t
  · rw [if_pos q] at hh; cases hh; exact Prod.ext q rfl
  · rw [if_neg q] at hh; cases hh
theorem newx_lv {t i : Nat} {h : Hp} {ph : Bool} (hu : unp (gn h) = (t, i)) : lvq ph (sN h) (t, i) := by
  have e : pos (t, i) = gn h := by rw [← hu, pos_unp]
  exact ⟨by rw [e]; exact hu, Or.inl (by rw [e, gn_sN]; omega)⟩
def guardL {α : Type} (t i : Nat) (h : Hp) (o : Option α) : Option α := if unp (pos (t, i)) = (t, i) ∧ pos (t, i) < gn h then o else none
theorem guardL_some {α : Type} {t i : Nat} {h : Hp} {o : Option α} {r : α} (hh : guardL t i h o = some r) : lvq false h (t, i) ∧ o = some r := by
  unfold guardL at hh
  by_cases q : unp (pos (t, i)) = (t, i) ∧ pos (t, i) < gn h
  · rw [if_pos q] at hh; exact ⟨⟨q.1, Or.inl q.2⟩, hh⟩
  · rw [if_neg q] at hh; cases hh
def guardS {α : Type} (x : Option Nat) (i : Nat) (o : Option α) : Option α := if x = some i then o else none
theorem guardS_some {α : Type} {x : Option Nat} {i : Nat} {o : Option α} {r : α} (hh : guardS x i o = some r) : x = some i ∧ o = some r := by
  unfold guardS at hh
  by_cases q : x = some i
  · rw [if_pos q] at hh; exact ⟨q, hh⟩
  · rw [if_neg q] at hh; cases hh
def lenE (x : Option Nat) (h : Hp) : Option Int32 := if x = some 0 then some 0 else if x = some 1 ∧ 75 < gn h then some 10 else none
theorem lenE_some {x : Option Nat} {h : Hp} {r : Int32} (hh : lenE x h = some r) : (x = some 0 ∧ r = 0) ∨ (x = some 1 ∧ lvq true h (16, 1) ∧ r = 10) := by
  unfold lenE at hh
  by_cases q : x = some 0
  · rw [if_pos q] at hh; cases hh; exact Or.inl ⟨q, rfl⟩
  · rw [if_neg q] at hh
    by_cases q2 : x = some 1 ∧ 75 < gn h
    · rw [if_pos q2] at hh; cases hh
      exact Or.inr ⟨q2.1, ⟨by decide +kernel, Or.inl (by rw [show pos (16, 1) = 75 by decide +kernel]; exact q2.2)⟩, rfl⟩
    · rw [if_neg q2] at hh; cases hh
def guard10 {α : Type} (x : Int32) (o : Option α) : Option α := if x = 10 then o else none
theorem guard10_some {α : Type} {x : Int32} {o : Option α} {r : α} (hh : guard10 x o = some r) : x = 10 ∧ o = some r := by
  unfold guard10 at hh
  by_cases q : x = 10
  · rw [if_pos q] at hh; exact ⟨q, hh⟩
  · rw [if_neg q] at hh; cases hh
def dfl (t : Nat) : Value := if t < 2 then .int 0 else if t = 2 then .long 0 else .null
def NWk (own : String) (idx ci N : Nat) (tys : List Nat) : Prop := ∃ (C : String) (T : u_T) (ty0 : Nat → FieldType), vwCl[ci]? = some (C, T, N) ∧ (∀ w ∈ u_ws C T N, w ∈ TT) ∧ (∀ k, k < N → parseFieldDescriptor (T k).2.2.1 = some (ty0 k)) ∧ Cond.classLink own idx C ∈ TT ∧ Cond.instantiable C N ∈ TT ∧ Cond.initialized C ∈ TT ∧ tys.length = N ∧ ∀ j, j < N → defaultValue (ty0 j) = dfl (tys.getD j 0)
theorem loc_new {G : GG} {h : Hp} {a : Ad} (hu : unp (gn h) = a) : loc G a = G.1 + gn h := by
  have e : pos a = gn h := by rw [← hu, pos_unp]
  rw [loc_live (by rw [e]; exact hu), e]
theorem WR_new {ph : Bool} {G : GG} {h : Hp} {H H1 : Heap} (hW : WR ph G h H) (hz : H1.size = H.size + 1) (ho : ∀ q : Nat, q < H.size → H1[q]? = H[q]?) (hc : va_at G.2.2.1 vwCl (G.1 + gn h, cellE G h (unp (gn h))) H1) : WR ph G (sN h) H1 := by
  obtain ⟨w1, w2, w3, w4⟩ := hW
  have ew : wl G (sN h) = wl G h ++ [(G.1 + gn h, cellE G h (unp (gn h)))] := by
    unfold wl
    have e : ∀ b, cellE G (sN h) b = cellE G h b := fun b => cellE_congr (fun _ => rfl) (fun _ => rfl) (fun _ => rfl)
    simp only [gn_sN, List.range_succ, List.map_append, e]
    rfl
  refine ⟨by rw [hz, w1, gn_sN]; omega, ?_, fun k hk st => w3 k (by rw [gn_sN] at hk; omega) st, fun q => ?_⟩
  · rw [ew]
    refine va_P.app (w2.kept fun k q hq => ho q.1 ((w2 k q hq).lt)) (fun k q hq => ?_)
    have hk : k < 1 := (List.getElem?_eq_some_iff.mp hq).1
    rw [show k = 0 by omega] at hq
    cases hq
    exact hc
  · obtain ⟨f1, f2⟩ := w4 q
    exact ⟨f1, by rw [gn_sN]; omega⟩
section VN
variable {ph : Bool} {G : GG} {p : Program} {l : Launch} {e : Env} {R : Room} {s : State} {m : MethodId} {args : Array Value} {below : List Frame} {meth : Method} {c : Code} {nL : Nat} {Q : State → Prop} {h h' : Hp} {cells slots pc pc' : Nat} {ls : List (Option AV)} {st rest : List AV} {cc : ByteArray} {own : String} {rv : Option AV} {mc ms : Nat}
theorem v_new (C : Cx G p s m c args cc nL own) {t i ci N idx : Nat} {tys : List Nat} (hu : unp (gn h) = (t, i)) (hs : shp t = .inl (ci, tys)) (hw : NWk own idx ci N tys) (hcs : cells + 1 ≤ R.cells ∧ slots + N ≤ R.slots) (hd : decode cc pc = .ok (.new idx, 3)) (hp : pc + 3 = pc') (kk : V ph G p l e R s m args below meth c nL Q (sN h) (cells + 1) (slots + N) pc' ls (aA t (some i) :: st)) : V ph G p l e R s m args below meth c nL Q h cells slots pc ls st := by
  subst hp
  obtain ⟨Cn, T, ty0, q1, q2, q3, q4, q5, q6, q7, q8⟩ := hw
  intro H locs LS a b d
  have hKn := C.2.2.2.2.2.1.1.1 ci _ q1
  refine W.newcK C.1 C.2.1 C.2.2.2.1 (C.2.2.2.2.1 _ q4) (C.2.2.2.2.1 _ q5) (C.2.2.2.2.1 _ q6) rfl hd hcs.1 hcs.2 hKn.2.1 a.1 fun H1 kC hkC e1 z1 o1 => ?_
  have hc : va_at G.2.2.1 vwCl (G.1 + gn h, cellE G h (unp (gn h))) H1 := by
    rw [hu]
    unfold cellE
    rw [show (((t, i) : Ad).1) = t from rfl, hs]
    refine ⟨_, q1, (u_born ty0 C.2.2.2.2.1 q2 hKn hkC e1 q3).to (fun j hj => ?_)⟩
    rw [q8 j hj]
    have hj2 : tys[j]? = some (tys.getD j 0) := by
      rw [List.getD_eq_getElem?_getD, List.getElem?_eq_getElem (by rw [q7]; exact hj)]; rfl
    have e2 : (mkF G h (t, i) tys 0)[j]? = some (mkV G h (t, i) j (tys.getD j 0)) := by
      rw [mkF_at, hj2, Option.map_some, Nat.zero_add]
    have e3 : vp_V (mkF G h (t, i) tys 0) j = mkV G h (t, i) j (tys.getD j 0) := by
      show (mkF G h (t, i) tys 0).getD j .null = _
      rw [List.getD_eq_getElem?_getD, e2]; rfl
    rw [e3]
    obtain ⟨f1, f2, f3⟩ := a.2.2.1 (gn h) (Nat.le_refl _) j
    rw [hu] at f1 f2 f3
    unfold mkV dfl
    rw [f1, f2, f3]
    rfl
  have hWR := WR_new a (by rw [z1, a.1]) (fun q hq => o1 q (by rw [← a.1]; exact hq)) hc
  have k2 := kk H1 locs LS hWR ⟨Nat.le_trans b.1 (by rw [z1, a.1]; omega), fun q g1 g2 => (o1 q (by rw [← a.1]; exact Nat.lt_of_lt_of_le g1 b.1)).trans (b.2.1 q g1 g2), b.2.2⟩ d
  have es : (aA t (some i) :: st).map (vv G) = .ref (G.1 + gn h) :: st.map (vv G) := by
    show Value.ref (loc G (t, i)) :: _ = _
    rw [loc_new hu]
  rw [es] at k2
  exact k2
theorem v_newaI (C : Cx G p s m c args cc nL own) {t i len : Nat} {n : Int32} (hu : unp (gn h) = (t, i)) (hs : shp t = .inr (0, len)) (hw : Cond.arrayClass .int ∈ TT) (hn : ¬ n < 0) (hN : n.toNatClampNeg = len) (hb : len * componentBytes .int ≤ 536870912) (hcs : cells + 1 ≤ R.cells ∧ slots + len ≤ R.slots) (hd : decode cc pc = .ok (.newarray .int, 2)) (hp : pc + 2 = pc') (kk : V ph G p l e R s m args below meth c nL Q (sN h) (cells + 1) (slots + len) pc' ls (aA t (some i) :: st)) : V ph G p l e R s m args below meth c nL Q h cells slots pc ls (aI n :: st) := by
  subst hp
  intro H locs LS a b d
  refine va_newaK (atype := .int) C.1 C.2.1 (C.2.2.2.2.1 _ hw) rfl hd (rest := st.map (vv G)) (n := n) (N := len) rfl hn hN hb hcs.1 hcs.2 a.1 fun H1 cA e1 z1 o1 hAr hNm => ?_
  have hcA : cA = G.2.2.2 0 := by
    have h2 := (C.2.2.2.2.2.1.1.2 0 _ (tys_at G (by decide))).2
    exact Option.some.inj (hNm.symm.trans h2)
  subst hcA
  have hz : gI h (t, i) = fun _ => 0 := by
    funext j
    obtain ⟨f1, f2, f3⟩ := a.2.2.1 (gn h) (Nat.le_refl _) j
    rw [hu] at f1 f2 f3
    exact f1
  have hc : va_at G.2.2.1 vwCl (G.1 + gn h, cellE G h (unp (gn h))) H1 := by
    rw [hu]
    unfold cellE
    rw [show (((t, i) : Ad).1) = t from rfl, hs]
    show H1[G.1 + gn h]? = some (vp_cell (G.2.2.2 0) (len, .inl (gI h (t, i))))
    rw [hz]
    exact e1
  have hWR := WR_new a (by rw [z1, a.1]) (fun q hq => o1 q (by rw [← a.1]; exact hq)) hc
  have k2 := kk H1 locs LS hWR ⟨Nat.le_trans b.1 (by rw [z1, a.1]; omega), fun q g1 g2 => (o1 q (by rw [← a.1]; exact Nat.lt_of_lt_of_le g1 b.1)).trans (b.2.1 q g1 g2), b.2.2⟩ d
  have es : (aA t (some i) :: st).map (vv G) = .ref (G.1 + gn h) :: st.map (vv G) := by
    show Value.ref (loc G (t, i)) :: _ = _
    rw [loc_new hu]
  rw [es] at k2
  exact k2
theorem v_newaC (C : Cx G p s m c args cc nL own) {t i len : Nat} {n : Int32} (hu : unp (gn h) = (t, i)) (hs : shp t = .inr (1, len)) (hw : Cond.arrayClass .char ∈ TT) (hn : ¬ n < 0) (hN : n.toNatClampNeg = len) (hb : len * componentBytes .char ≤ 536870912) (hcs : cells + 1 ≤ R.cells ∧ slots + len ≤ R.slots) (hd : decode cc pc = .ok (.newarray .char, 2)) (hp : pc + 2 = pc') (kk : V ph G p l e R s m args below meth c nL Q (sN h) (cells + 1) (slots + len) pc' ls (aA t (some i) :: st)) : V ph G p l e R s m args below meth c nL Q h cells slots pc ls (aI n :: st) := by
  subst hp
  intro H locs LS a b d
  refine va_newaK (atype := .char) C.1 C.2.1 (C.2.2.2.2.1 _ hw) rfl hd (rest := st.map (vv G)) (n := n) (N := len) rfl hn hN hb hcs.1 hcs.2 a.1 fun H1 cA e1 z1 o1 hAr hNm => ?_
  have hcA : cA = G.2.2.2 1 := by
    have h2 := (C.2.2.2.2.2.1.1.2 1 _ (tys_at G (by decide))).2
    exact Option.some.inj (hNm.symm.trans h2)
  subst hcA
  have hz : gI h (t, i) = fun _ => 0 := by
    funext j
    obtain ⟨f1, f2, f3⟩ := a.2.2.1 (gn h) (Nat.le_refl _) j
    rw [hu] at f1 f2 f3
    exact f1
  have hc : va_at G.2.2.1 vwCl (G.1 + gn h, cellE G h (unp (gn h))) H1 := by
    rw [hu]
    unfold cellE
    rw [show (((t, i) : Ad).1) = t from rfl, hs]
    show H1[G.1 + gn h]? = some (vp_cell (G.2.2.2 1) (len, .inl (gI h (t, i))))
    rw [hz]
    exact e1
  have hWR := WR_new a (by rw [z1, a.1]) (fun q hq => o1 q (by rw [← a.1]; exact hq)) hc
  have k2 := kk H1 locs LS hWR ⟨Nat.le_trans b.1 (by rw [z1, a.1]; omega), fun q g1 g2 => (o1 q (by rw [← a.1]; exact Nat.lt_of_lt_of_le g1 b.1)).trans (b.2.1 q g1 g2), b.2.2⟩ d
  have es : (aA t (some i) :: st).map (vv G) = .ref (G.1 + gn h) :: st.map (vv G) := by
    show Value.ref (loc G (t, i)) :: _ = _
    rw [loc_new hu]
  rw [es] at k2
  exact k2
theorem v_newaJ (C : Cx G p s m c args cc nL own) {t i len : Nat} {n : Int32} (hu : unp (gn h) = (t, i)) (hs : shp t = .inr (2, len)) (hw : Cond.arrayClass .long ∈ TT) (hn : ¬ n < 0) (hN : n.toNatClampNeg = len) (hb : len * componentBytes .long ≤ 536870912) (hcs : cells + 1 ≤ R.cells ∧ slots + len ≤ R.slots) (hd : decode cc pc = .ok (.newarray .long, 2)) (hp : pc + 2 = pc') (kk : V ph G p l e R s m args below meth c nL Q (sN h) (cells + 1) (slots + len) pc' ls (aA t (some i) :: st)) : V ph G p l e R s m args below meth c nL Q h cells slots pc ls (aI n :: st) := by
  subst hp
  intro H locs LS a b d
  refine va_newaK (atype := .long) C.1 C.2.1 (C.2.2.2.2.1 _ hw) rfl hd (rest := st.map (vv G)) (n := n) (N := len) rfl hn hN hb hcs.1 hcs.2 a.1 fun H1 cA e1 z1 o1 hAr hNm => ?_
  have hcA : cA = G.2.2.2 2 := by
    have h2 := (C.2.2.2.2.2.1.1.2 2 _ (tys_at G (by decide))).2
    exact Option.some.inj (hNm.symm.trans h2)
  subst hcA
  have hz : gL h (t, i) = fun _ => 0 := by
    funext j
    obtain ⟨f1, f2, f3⟩ := a.2.2.1 (gn h) (Nat.le_refl _) j
    rw [hu] at f1 f2 f3
    exact f2
  have hc : va_at G.2.2.1 vwCl (G.1 + gn h, cellE G h (unp (gn h))) H1 := by
    rw [hu]
    unfold cellE
    rw [show (((t, i) : Ad).1) = t from rfl, hs]
    show H1[G.1 + gn h]? = some (vp_cell (G.2.2.2 2) (len, .inr (.inl (gL h (t, i)))))
    rw [hz]
    exact e1
  have hWR := WR_new a (by rw [z1, a.1]) (fun q hq => o1 q (by rw [← a.1]; exact hq)) hc
  have k2 := kk H1 locs LS hWR ⟨Nat.le_trans b.1 (by rw [z1, a.1]; omega), fun q g1 g2 => (o1 q (by rw [← a.1]; exact Nat.lt_of_lt_of_le g1 b.1)).trans (b.2.1 q g1 g2), b.2.2⟩ d
  have es : (aA t (some i) :: st).map (vv G) = .ref (G.1 + gn h) :: st.map (vv G) := by
    show Value.ref (loc G (t, i)) :: _ = _
    rw [loc_new hu]
  rw [es] at k2
  exact k2
theorem v_anewN (C : Cx G p s m c args cc nL own) {t i len idx : Nat} {n : Int32} (hu : unp (gn h) = (t, i)) (hs : shp t = .inr (3, len)) (hw : Cond.classLink own idx "RootedFerry$Node" ∈ TT) (hn : ¬ n < 0) (hN : n.toNatClampNeg = len) (hb : len * 4 ≤ 536870912) (hcs : cells + 1 ≤ R.cells ∧ slots + len ≤ R.slots) (hd : decode cc pc = .ok (.anewarray idx, 3)) (hp : pc + 3 = pc') (kk : V ph G p l e R s m args below meth c nL Q (sN h) (cells + 1) (slots + len) pc' ls (aA t (some i) :: st)) : V ph G p l e R s m args below meth c nL Q h cells slots pc ls (aI n :: st) := by
  subst hp
  subst hN
  intro H locs LS a b d
  refine W.anew C.1 C.2.1 C.2.2.2.1 (C.2.2.2.2.1 _ hw) (va_AO.use C.2.2.2.2.2.1.2.2.2.2.1) rfl hd (rest := st.map (vv G)) (n := n) rfl hn hb hcs.1 hcs.2 fun cA kA comp f1 f2 f3 f4 => ?_
  have hcA : cA = G.2.2.2 3 := by
    obtain ⟨_, _, _, _, _, h2⟩ := (C.2.2.2.2.2.1.1.2 3 _ (tys_at G (by decide))).2
    exact Option.some.inj (f1.symm.trans h2)
  subst hcA
  rw [arrV_new]
  have hz : (fun j => (gR h (t, i) j).map fun x => loc G (5, x)) = fun _ => none := by
    funext j
    obtain ⟨f1, f2, f3⟩ := a.2.2.1 (gn h) (Nat.le_refl _) j
    rw [hu] at f1 f2 f3
    rw [f3]; rfl
  have hc : va_at G.2.2.1 vwCl (G.1 + gn h, cellE G h (unp (gn h))) (H.push (arrV (G.2.2.2 3) n.toNatClampNeg fun _ => Value.null)) := by
    rw [hu]
    unfold cellE
    rw [show (((t, i) : Ad).1) = t from rfl, hs]
    show (H.push (arrV (G.2.2.2 3) n.toNatClampNeg fun _ => Value.null))[G.1 + gn h]? = some (vp_cell (G.2.2.2 3) (n.toNatClampNeg, .inr (.inr (.inr (.inr fun j => (gR h (t, i) j).map fun x => loc G (5, x))))))
    rw [hz, ← a.1]
    simp
    rfl
  have hWR := WR_new a (by simp) (fun q hq => by rw [Array.getElem?_push, if_neg (Nat.ne_of_lt hq)]) hc
  have k2 := kk _ locs LS hWR ⟨Nat.le_trans b.1 (by simp), fun q g1 g2 => by
    rw [Array.getElem?_push, if_neg (Nat.ne_of_lt (Nat.lt_of_lt_of_le g1 b.1))]
    exact b.2.1 q g1 g2, b.2.2⟩ d
  have es : (aA t (some i) :: st).map (vv G) = .ref H.size :: st.map (vv G) := by
    show Value.ref (loc G (t, i)) :: _ = _
    rw [loc_new hu, a.1]
  rw [es] at k2
  exact k2
theorem v_anewO (C : Cx G p s m c args cc nL own) {t i len idx : Nat} {n : Int32} (hu : unp (gn h) = (t, i)) (hs : shp t = .inr (4, len)) (hw : Cond.classLink own idx "java/lang/Object" ∈ TT) (hn : ¬ n < 0) (hN : n.toNatClampNeg = len) (hb : len * 4 ≤ 536870912) (hcs : cells + 1 ≤ R.cells ∧ slots + len ≤ R.slots) (hd : decode cc pc = .ok (.anewarray idx, 3)) (hp : pc + 3 = pc') (kk : V ph G p l e R s m args below meth c nL Q (sN h) (cells + 1) (slots + len) pc' ls (aA t (some i) :: st)) : V ph G p l e R s m args below meth c nL Q h cells slots pc ls (aI n :: st) := by
  subst hp
  subst hN
  intro H locs LS a b d
  refine W.anew C.1 C.2.1 C.2.2.2.1 (C.2.2.2.2.1 _ hw) (va_AO.use C.2.2.2.2.2.1.2.2.2.2.2.1) rfl hd (rest := st.map (vv G)) (n := n) rfl hn hb hcs.1 hcs.2 fun cA kA comp f1 f2 f3 f4 => ?_
  have hcA : cA = G.2.2.2 4 := by
    obtain ⟨_, _, _, _, _, h2⟩ := (C.2.2.2.2.2.1.1.2 4 _ (tys_at G (by decide))).2
    exact Option.some.inj (f1.symm.trans h2)
  subst hcA
  rw [arrV_new]
  have hz : (fun j => (gR h (t, i) j).map fun x => loc G (15, x)) = fun _ => none := by
    funext j
    obtain ⟨f1, f2, f3⟩ := a.2.2.1 (gn h) (Nat.le_refl _) j
    rw [hu] at f1 f2 f3
    rw [f3]; rfl
  have hc : va_at G.2.2.1 vwCl (G.1 + gn h, cellE G h (unp (gn h))) (H.push (arrV (G.2.2.2 4) n.toNatClampNeg fun _ => Value.null)) := by
    rw [hu]
    unfold cellE
    rw [show (((t, i) : Ad).1) = t from rfl, hs]
    show (H.push (arrV (G.2.2.2 4) n.toNatClampNeg fun _ => Value.null))[G.1 + gn h]? = some (vp_cell (G.2.2.2 4) (n.toNatClampNeg, .inr (.inr (.inr (.inr fun j => (gR h (t, i) j).map fun x => loc G (15, x))))))
    rw [hz, ← a.1]
    simp
    rfl
  have hWR := WR_new a (by simp) (fun q hq => by rw [Array.getElem?_push, if_neg (Nat.ne_of_lt hq)]) hc
  have k2 := kk _ locs LS hWR ⟨Nat.le_trans b.1 (by simp), fun q g1 g2 => by
    rw [Array.getElem?_push, if_neg (Nat.ne_of_lt (Nat.lt_of_lt_of_le g1 b.1))]
    exact b.2.1 q g1 g2, b.2.2⟩ d
  have es : (aA t (some i) :: st).map (vv G) = .ref H.size :: st.map (vv G) := by
    show Value.ref (loc G (t, i)) :: _ = _
    rw [loc_new hu, a.1]
  rw [es] at k2
  exact k2
theorem v_aastN (C : Cx G p s m c args cc nL own) {t i len j : Nat} {y : Int32} (hs : shp t = .inr (3, len)) (hv : lvq ph h (t, i)) (hvj : lvq ph h (5, j)) (hin : inB y len = true) (hK4 : ph = true → FR t i y.toNatClampNeg = none ∧ t ≠ 4) (hd : decode cc pc = .ok (.aastore, 1)) (hp : pc + 1 = pc') (kk : V ph G p l e R s m args below meth c nL Q (sR h (t, i) y.toNatClampNeg (some j)) cells slots pc' ls st) : V ph G p l e R s m args below meth c nL Q h cells slots pc ls (aA 5 (some j) :: aI y :: aA t (some i) :: st) := by
  subst hp
  intro H locs LS a b d
  have hc := arr_cell hs a hv
  have hcj : (wl G h)[pos (5, j)]? = some (loc G (5, j), .inr (6, mkF G h (5, j) [106, 0, 1, 1, 2, 105] 0)) := by
    rw [wl_cell a hvj]; rfl
  have hvp := inB_vp hin
  have hlt : y.toNatClampNeg < len := inB_lt hin
  have h0 : ¬ y < 0 := fun q => hvp (Or.inl q)
  obtain ⟨r', hr', cellV, g1, g2, g3, -⟩ := a.2.1 _ _ hcj
  have hcls := (C.2.2.2.2.2.1.1.1 6 (RX8, TX8, 6) rfl).2
  obtain ⟨kA, comp, k1, k2, k3, -⟩ := (C.2.2.2.2.2.1.1.2 3 _ (tys_at G (by decide))).2
  have hcomp : comp = G.2.2.1.1 6 := Option.some.inj (k3.symm.trans hcls.1)
  subst hcomp
  obtain ⟨kC, hkC, -⟩ := hcls.2
  have hkE := hkC
  have hasg : s.vm.assignable (G.2.2.1.1 6) (G.2.2.1.1 6) = true := va_assign hcls
  refine W.aast C.1 C.2.1 (a.2.1 _ _ hc) (fun q h => by cases h) (fun h => by cases h) k1 k2 rfl hkE ⟨h0, by show _ < (arrV _ _ _).slots.size; rw [arrV_size]; exact hlt⟩ g1 (fun q h => by rw [g3] at h; cases h) (by rw [g2]; exact hkC) (by rw [g2]; exact hasg) rfl rfl hd fun H1 e1 z oq => ?_
  refine kk H1 _ LS (WR_put (one_sR h (t, i) y.toNatClampNeg (some j)) hv a z ?_ oq (fun z b2 s2 e2 => by obtain ⟨rfl, rfl⟩ := e2; exact Or.inr (hK4 z))) (b.put z oq ((wl_D G h).2 _ _ hc)) d
  unfold cellE
  rw [show (((t, i) : Ad).1) = t from rfl, hs]
  show H1[loc G (t, i)]? = some (vp_cell _ (len, _))
  rw [e1]
  show some (Cell.setSlot (vp_cell (G.2.2.2 3) (len, .inr (.inr (.inr (.inr fun j => (gR h (t, i) j).map fun x => loc G (5, x)))))) _ _) = some (vp_cell (G.2.2.2 3) (len, .inr (.inr (.inr (.inr fun j2 => (gR (sR h (t, i) y.toNatClampNeg (some j)) (t, i) j2).map fun x => loc G (5, x))))))
  rw [vp_cell_q, vp_cell_q, arrV_store]
  congr 2
  funext q
  by_cases hq : q = y.toNatClampNeg
  · subst hq
    simp [updV, gR_sR, va_rf]
  · simp [updV, gR_sR, hq]
theorem v_aastO (C : Cx G p s m c args cc nL own) {t i len j : Nat} {y : Int32} (hs : shp t = .inr (4, len)) (hv : lvq ph h (t, i)) (hvj : lvq ph h (15, j)) (hin : inB y len = true) (hK4 : ph = true → FR t i y.toNatClampNeg = none ∧ t ≠ 4) (hd : decode cc pc = .ok (.aastore, 1)) (hp : pc + 1 = pc') (kk : V ph G p l e R s m args below meth c nL Q (sR h (t, i) y.toNatClampNeg (some j)) cells slots pc' ls st) : V ph G p l e R s m args below meth c nL Q h cells slots pc ls (aA 15 (some j) :: aI y :: aA t (some i) :: st) := by
  subst hp
  intro H locs LS a b d
  have hc := arr_cell hs a hv
  have hcj : (wl G h)[pos (15, j)]? = some (loc G (15, j), .inr (1, mkF G h (15, j) [2, 2, 105] 0)) := by
    rw [wl_cell a hvj]; rfl
  have hvp := inB_vp hin
  have hlt : y.toNatClampNeg < len := inB_lt hin
  have h0 : ¬ y < 0 := fun q => hvp (Or.inl q)
  obtain ⟨r', hr', cellV, g1, g2, g3, -⟩ := a.2.1 _ _ hcj
  have hcls := (C.2.2.2.2.2.1.1.1 1 (RX1, TX1, 3) rfl).2
  obtain ⟨kA, comp, k1, k2, k3, -⟩ := (C.2.2.2.2.2.1.1.2 4 _ (tys_at G (by decide))).2
  obtain ⟨kE, hkE, -⟩ := Vm.findClass_spec k3
  obtain ⟨c0, t1, f1, f2, f3⟩ := Cond.castable_spec (va_Nw.use (A := args) rfl C.2.2.2.2.2.1.2.2.2.2.2.2.1)
  cases hcls.1.symm.trans f1
  cases k3.symm.trans f2
  obtain ⟨kC, hkC, -⟩ := hcls.2
  have hasg := f3
  refine W.aast C.1 C.2.1 (a.2.1 _ _ hc) (fun q h => by cases h) (fun h => by cases h) k1 k2 rfl hkE ⟨h0, by show _ < (arrV _ _ _).slots.size; rw [arrV_size]; exact hlt⟩ g1 (fun q h => by rw [g3] at h; cases h) (by rw [g2]; exact hkC) (by rw [g2]; exact hasg) rfl rfl hd fun H1 e1 z oq => ?_
  refine kk H1 _ LS (WR_put (one_sR h (t, i) y.toNatClampNeg (some j)) hv a z ?_ oq (fun z b2 s2 e2 => by obtain ⟨rfl, rfl⟩ := e2; exact Or.inr (hK4 z))) (b.put z oq ((wl_D G h).2 _ _ hc)) d
  unfold cellE
  rw [show (((t, i) : Ad).1) = t from rfl, hs]
  show H1[loc G (t, i)]? = some (vp_cell _ (len, _))
  rw [e1]
  show some (Cell.setSlot (vp_cell (G.2.2.2 4) (len, .inr (.inr (.inr (.inr fun j => (gR h (t, i) j).map fun x => loc G (15, x)))))) _ _) = some (vp_cell (G.2.2.2 4) (len, .inr (.inr (.inr (.inr fun j2 => (gR (sR h (t, i) y.toNatClampNeg (some j)) (t, i) j2).map fun x => loc G (15, x))))))
  rw [vp_cell_q, vp_cell_q, arrV_store]
  congr 2
  funext q
  by_cases hq : q = y.toNatClampNeg
  · subst hq
    simp [updV, gR_sR, va_rf]
  · simp [updV, gR_sR, hq]
/-- a constructor -/
theorem v_callI (C : Cx G p s m c args cc nL own) {y : MethodName} {b : ByteArray} {nLy n fr lo idx t i : Nat} {As : List AV} (hC : Ctr l y b nLy none fr lo mc ms ph (aA t (some i) :: As) h none h') (hm : MIk own idx y b nLy n)
    (hd : decode cc pc = .ok (.invokespecial idx, 3)) (hp : pc + 3 = pc') (hn : As.length = n) (hst : As.reverse ++ aA t (some i) :: rest = st) (hR : fr + 1 ≤ R.frames ∧ 8 + (nLy + 11) + lo ≤ R.locals) (hW : (rest.map fun x => if isW x then 2 else 1).sum ≤ 8) (hcs : cells + mc ≤ R.cells ∧ slots + ms ≤ R.slots)
    (kk : V ph G p l e R s m args below meth c nL Q h' (cells + mc) (slots + ms) pc' ls rest) : V ph G p l e R s m args below meth c nL Q h cells slots pc ls st := by
  subst hp
  subst hst
  intro H locs LS a hS d
  obtain ⟨w1, w2, w4, w5, w7, w6⟩ := hm
  have hG : GoodIn TT (.code y b nLy none :: TT) := tt_in (y' := y) (b' := cc) (n' := 0) (r' := none) w5
  have hr := va_runI (p := p) (e := e) (below := below) (meth := meth) (locs := locs) (cells := cells) (slots := slots) (As := As.map (vv G)) (rest := rest.map (vv G)) (g := F0 m pc LS ((As.reverse ++ aA t (some i) :: rest).map (vv G))) ⟨C.1, C.2.1, C.2.2.1, C.2.2.2.1, C.2.2.2.2.1⟩ (hC G) (cwI n C.2.2.2.2.1 hG rfl rfl rfl (C.2.2.2.2.1 _ w4) (C.2.2.2.2.1 _ w1) (C.2.2.2.2.1 _ w2) w7 w6 hR) (b := loc G (t, i)) (H := H) ⟨pc_blind _ _, fun U hU hW => pc_ok C a hS (aA t (some i) :: As) hU hW⟩ rfl (by rw [List.length_map]; exact hn) d.1 (by show List.map (vv G) _ = _; rw [List.map_append, List.map_reverse, List.map_cons]; rfl) (lv_room (by rw [rest_cat]; exact hW)) hd hcs
  exact v_after (rv := none) hr hS rfl d kk
theorem v_callIN (C : Cx G p s m c args cc nL own) {y : MethodName} {b : ByteArray} {nLy n fr lo idx t i : Nat} {As : List AV} (hC : Ctr l y b nLy none fr lo mc ms ph (aA t (some i) :: As) h none h') (hnw : va_Nw (.methodLinkNest own idx y "RootedFerry") s) (hm : Cond.instanceMethod y ∈ TT ∧ Cond.initialized y.cls ∈ TT ∧ Cond.code y b nLy none ∈ TT ∧ y.name = "<init>" ∧ plainC y n)
    (hd : decode cc pc = .ok (.invokespecial idx, 3)) (hp : pc + 3 = pc') (hn : As.length = n) (hst : As.reverse ++ aA t (some i) :: rest = st) (hR : fr + 1 ≤ R.frames ∧ 8 + (nLy + 11) + lo ≤ R.locals) (hW : (rest.map fun x => if isW x then 2 else 1).sum ≤ 8) (hcs : cells + mc ≤ R.cells ∧ slots + ms ≤ R.slots)
    (kk : V ph G p l e R s m args below meth c nL Q h' (cells + mc) (slots + ms) pc' ls rest) : V ph G p l e R s m args below meth c nL Q h cells slots pc ls st := by
  subst hp
  subst hst
  intro H locs LS a hS d
  obtain ⟨w2, w4, w5, w7, w6⟩ := hm
  have hG : GoodIn TT (.code y b nLy none :: TT) := tt_in (y' := y) (b' := cc) (n' := 0) (r' := none) w5
  have hr := va_runIN (p := p) (e := e) (below := below) (meth := meth) (locs := locs) (cells := cells) (slots := slots) (As := As.map (vv G)) (rest := rest.map (vv G)) (g := F0 m pc LS ((As.reverse ++ aA t (some i) :: rest).map (vv G))) ⟨C.1, C.2.1, C.2.2.1, C.2.2.2.1, C.2.2.2.2.1⟩ (hC G) ⟨va_cnB n C.2.2.2.2.1 hG rfl rfl rfl hnw (C.2.2.2.2.1 _ w4) w6 hR, w7, C.2.2.2.2.1 _ w2⟩ (b := loc G (t, i)) (H := H) ⟨pc_blind _ _, fun U hU hW => pc_ok C a hS (aA t (some i) :: As) hU hW⟩ rfl (by rw [List.length_map]; exact hn) d.1 (by show List.map (vv G) _ = _; rw [List.map_append, List.map_reverse, List.map_cons]; rfl) (lv_room (by rw [rest_cat]; exact hW)) hd hcs
  exact v_after (rv := none) hr hS rfl d kk
theorem v_mmax (C : Cx G p s m c args cc nL own) {x y : Int32} {idx : Nat} (hw : Cond.methodLink own idx Lib.Math.max.name ∈ TT) (hfr : 1 ≤ R.frames) (hlo : (st.map fun x => if isW x then 2 else 1).sum + 13 ≤ R.locals) (hcs : cells ≤ R.cells ∧ slots ≤ R.slots) (hd : decode cc pc = .ok (.invokestatic idx, 3)) (hp : pc + 3 = pc') (kk : V ph G p l e R s m args below meth c nL Q h cells slots pc' ls (aI (if x < y then y else x) :: st)) : V ph G p l e R s m args below meth c nL Q h cells slots pc ls (aI y :: aI x :: st) := by
  subst hp
  intro H locs LS a b d
  exact va_mmax C.1 C.2.1 (by rw [C.2.2.1]; exact d.1.symm) C.2.2.2.1 (C.2.2.2.2.1 _ hw) (C.2.2.2.2.1 _ (TT_of (i := 434) (by decide +kernel) (by decide +kernel))) (C.2.2.2.2.1 _ (TT_of (i := 90) (by decide +kernel) (by decide +kernel))) (C.2.2.2.2.1 _ (TT_of (i := 435) (by decide +kernel) (by decide +kernel))) hfr (by rw [rest_cat]; exact hlo) hcs.1 hcs.2 hd (kk H locs LS a b d)
theorem v_ecmp_eq (C : Cx G p s m c args cc nL own) {x : Option Nat} {off : Int} {tg : Nat} (hx : x = some 0 ∨ x = some 1) (hd : decode cc pc = .ok (.if_acmp .eq off, 3)) (ht : (pc : Int) + off = (tg : Int)) (hp : pc + 3 = pc') (kt : x = some 0 → V ph G p l e R s m args below meth c nL Q h cells slots tg ls st) (kf : ¬ x = some 0 → V ph G p l e R s m args below meth c nL Q h cells slots pc' ls st) : V ph G p l e R s m args below meth c nL Q h cells slots pc ls (aA 16 (some 0) :: aA 16 x :: st) := by
  subst hp
  have hna : ¬ A_ G (loc G (16, 0)) := by
    obtain ⟨cell, h1, h2, h3, h4, h5, h6, h7⟩ := C.2.2.2.2.2.1.2.2.1.2.2.2.2.2.2.2.2
    exact h7
  have hne : loc G (16, 1) ≠ loc G (16, 0) := by
    intro e
    apply hna
    rw [← e]
    rw [loc_live (a := (16, 1)) (by decide +kernel)]
    show G.1 ≤ _
    omega
  intro H locs LS a b d
  rcases hx with rfl | rfl
  · exact lv_acmp_eq (rx := some (loc G (16, 0))) (ry := some (loc G (16, 0))) C.1 C.2.1 hd ht (fun q => kt rfl H locs LS a b d) (fun q => absurd rfl q)
  · refine lv_acmp_eq (rx := some (loc G (16, 1))) (ry := some (loc G (16, 0))) C.1 C.2.1 hd ht (fun q => absurd (Option.some.inj q) hne) (fun q => kf (fun z => by cases z) H locs LS a b d)
theorem v_alenX (C : Cx G p s m c args cc nL own) {x : Option Nat} {r : Int32} (hx : (x = some 0 ∧ r = 0) ∨ (x = some 1 ∧ lvq ph h (16, 1) ∧ r = 10)) (hd : decode cc pc = .ok (.arraylength, 1)) (hp : pc + 1 = pc') (kk : V ph G p l e R s m args below meth c nL Q h cells slots pc' ls (aI r :: st)) : V ph G p l e R s m args below meth c nL Q h cells slots pc ls (aA 16 x :: st) := by
  rcases hx with ⟨rfl, rfl⟩ | ⟨rfl, hv, rfl⟩
  · exact v_alenE C hd hp kk
  · exact v_alen (t := 16) (i := 1) (k := 4) (len := 10) C rfl (by decide) hv rfl hd hp kk
end VN
theorem nw_L_7 : NWk RL 7 9 16 [101, 103, 107, 108, 110, 112, 114, 114, 1, 0, 105, 105, 1, 202, 0, 0] := ⟨RX12, TX12, tyX12, rfl, wi_X12, tyX12_ok, TT_of (i := 97) (by decide +kernel) (by decide +kernel), TT_of (i := 98) (by decide +kernel) (by decide +kernel), TT_of (i := 71) (by decide +kernel) (by decide +kernel), rfl, by decide +kernel⟩
theorem nw_L_10 : NWk RL 10 10 36 [121, 122, 123, 124, 125, 0, 126, 127, 128, 0, 129, 0, 1, 0, 0, 130, 0, 0, 1, 2, 0, 0, 2, 0, 0, 0, 0, 0, 0, 0, 0, 131, 0, 1, 0, 2] := ⟨RX13, TX13, tyX13, rfl, wi_X13, tyX13_ok, TT_of (i := 898) (by decide +kernel) (by decide +kernel), TT_of (i := 899) (by decide +kernel) (by decide +kernel), TT_of (i := 84) (by decide +kernel) (by decide +kernel), rfl, by decide +kernel⟩
theorem nw_X10_9 : NWk RX10 9 6 6 [106, 0, 1, 1, 2, 105] := ⟨RX8, TX8, tyX8, rfl, wi_X8, tyX8_ok, TT_of (i := 125) (by decide +kernel) (by decide +kernel), TT_of (i := 127) (by decide +kernel) (by decide +kernel), TT_of (i := 74) (by decide +kernel) (by decide +kernel), rfl, by decide +kernel⟩
theorem nw_X12_7 : NWk RX12 7 3 2 [102, 0] := ⟨RX4, TX4, tyX4, rfl, wi_X4, tyX4_ok, TT_of (i := 105) (by decide +kernel) (by decide +kernel), TT_of (i := 106) (by decide +kernel) (by decide +kernel), TT_of (i := 72) (by decide +kernel) (by decide +kernel), rfl, by decide +kernel⟩
theorem nw_X12_16 : NWk RX12 16 8 1 [104] := ⟨RX10, TX10, tyX10, rfl, wi_X10, tyX10_ok, TT_of (i := 119) (by decide +kernel) (by decide +kernel), TT_of (i := 120) (by decide +kernel) (by decide +kernel), TT_of (i := 73) (by decide +kernel) (by decide +kernel), rfl, by decide +kernel⟩
theorem nw_X12_23 : NWk RX12 23 0 3 [0, 116, 0] := ⟨RJx4a65c, TJx4a65c, tyJx4a65c, rfl, wi_Jx4a65c, tyJx4a65c_ok, TT_of (i := 171) (by decide +kernel) (by decide +kernel), TT_of (i := 172) (by decide +kernel) (by decide +kernel), TT_of (i := 77) (by decide +kernel) (by decide +kernel), rfl, by decide +kernel⟩
theorem nw_X12_30 : NWk RX12 30 7 7 [109, 0, 1, 1, 105, 105, 2] := ⟨RX9, TX9, tyX9, rfl, wi_X9, tyX9_ok, TT_of (i := 197) (by decide +kernel) (by decide +kernel), TT_of (i := 198) (by decide +kernel) (by decide +kernel), TT_of (i := 78) (by decide +kernel) (by decide +kernel), rfl, by decide +kernel⟩
theorem nw_X12_37 : NWk RX12 37 5 2 [111, 0] := ⟨RX6, TX6, tyX6, rfl, wi_X6, tyX6_ok, TT_of (i := 229) (by decide +kernel) (by decide +kernel), TT_of (i := 230) (by decide +kernel) (by decide +kernel), TT_of (i := 79) (by decide +kernel) (by decide +kernel), rfl, by decide +kernel⟩
theorem nw_X12_44 : NWk RX12 44 2 8 [113, 0, 0, 0, 105, 105, 2, 1] := ⟨RX2, TX2, tyX2, rfl, wi_X2, tyX2_ok, TT_of (i := 242) (by decide +kernel) (by decide +kernel), TT_of (i := 243) (by decide +kernel) (by decide +kernel), TT_of (i := 80) (by decide +kernel) (by decide +kernel), rfl, by decide +kernel⟩
theorem nw_X12_51 : NWk RX12 51 4 3 [0, 2, 105] := ⟨RX5, TX5, tyX5, rfl, wi_X5, tyX5_ok, TT_of (i := 280) (by decide +kernel) (by decide +kernel), TT_of (i := 281) (by decide +kernel) (by decide +kernel), TT_of (i := 81) (by decide +kernel) (by decide +kernel), rfl, by decide +kernel⟩
theorem nw_X12_115 : NWk RX12 115 1 3 [2, 2, 105] := ⟨RX1, TX1, tyX1, rfl, wi_X1, tyX1_ok, TT_of (i := 391) (by decide +kernel) (by decide +kernel), TT_of (i := 396) (by decide +kernel) (by decide +kernel), TT_of (i := 88) (by decide +kernel) (by decide +kernel), rfl, by decide +kernel⟩
theorem mn_X4_init : Cond.instanceMethod yX4_init ∈ TT ∧ Cond.initialized yX4_init.cls ∈ TT ∧ Cond.code yX4_init cX4_init 1 none ∈ TT ∧ yX4_init.name = "<init>" ∧ plainC yX4_init 0 := ⟨TT_of (i := 108) (by decide +kernel) (by decide +kernel), TT_of (i := 72) (by decide +kernel) (by decide +kernel), TT_of (i := 109) (by decide +kernel) (by decide +kernel), by decide +kernel, by decide +kernel, by decide +kernel, by decide +kernel⟩
theorem mn_X8_init : Cond.instanceMethod yX8_init ∈ TT ∧ Cond.initialized yX8_init.cls ∈ TT ∧ Cond.code yX8_init cX8_init 1 none ∈ TT ∧ yX8_init.name = "<init>" ∧ plainC yX8_init 0 := ⟨TT_of (i := 129) (by decide +kernel) (by decide +kernel), TT_of (i := 74) (by decide +kernel) (by decide +kernel), TT_of (i := 130) (by decide +kernel) (by decide +kernel), by decide +kernel, by decide +kernel, by decide +kernel, by decide +kernel⟩
theorem mn_X9_init : Cond.instanceMethod yX9_init ∈ TT ∧ Cond.initialized yX9_init.cls ∈ TT ∧ Cond.code yX9_init cX9_init 1 none ∈ TT ∧ yX9_init.name = "<init>" ∧ plainC yX9_init 0 := ⟨TT_of (i := 200) (by decide +kernel) (by decide +kernel), TT_of (i := 78) (by decide +kernel) (by decide +kernel), TT_of (i := 201) (by decide +kernel) (by decide +kernel), by decide +kernel, by decide +kernel, by decide +kernel, by decide +kernel⟩
theorem mn_X6_init : Cond.instanceMethod yX6_init ∈ TT ∧ Cond.initialized yX6_init.cls ∈ TT ∧ Cond.code yX6_init cX6_init 1 none ∈ TT ∧ yX6_init.name = "<init>" ∧ plainC yX6_init 0 := ⟨TT_of (i := 232) (by decide +kernel) (by decide +kernel), TT_of (i := 79) (by decide +kernel) (by decide +kernel), TT_of (i := 233) (by decide +kernel) (by decide +kernel), by decide +kernel, by decide +kernel, by decide +kernel, by decide +kernel⟩
theorem mn_X2_init : Cond.instanceMethod yX2_init ∈ TT ∧ Cond.initialized yX2_init.cls ∈ TT ∧ Cond.code yX2_init cX2_init 1 none ∈ TT ∧ yX2_init.name = "<init>" ∧ plainC yX2_init 0 := ⟨TT_of (i := 245) (by decide +kernel) (by decide +kernel), TT_of (i := 80) (by decide +kernel) (by decide +kernel), TT_of (i := 246) (by decide +kernel) (by decide +kernel), by decide +kernel, by decide +kernel, by decide +kernel, by decide +kernel⟩
theorem mn_X5_init : Cond.instanceMethod yX5_init ∈ TT ∧ Cond.initialized yX5_init.cls ∈ TT ∧ Cond.code yX5_init cX5_init 1 none ∈ TT ∧ yX5_init.name = "<init>" ∧ plainC yX5_init 0 := ⟨TT_of (i := 283) (by decide +kernel) (by decide +kernel), TT_of (i := 81) (by decide +kernel) (by decide +kernel), TT_of (i := 284) (by decide +kernel) (by decide +kernel), by decide +kernel, by decide +kernel, by decide +kernel, by decide +kernel⟩
theorem fp_Jxc12de_7 : FPk RJxc12de 7 0 0 false 0 := ⟨RJx4a65c, TJx4a65c, 3, "java/util/AbstractList", tyJx4a65c, .int, rfl, by decide, wi_Jx4a65c, TT_of (i := 187) (by decide +kernel) (by decide +kernel), Or.inl rfl, tyJx4a65c_ok, nmJx4a65c, rfl, by decide +kernel, rfl, fun z => by cases z⟩
