theorem mkF_at (G : GG) (h : Hp) (a : Ad) : ∀ (tys : List Nat) (s k : Nat), (mkF G h a tys s)[k]? = (tys[k]?).map fun ty => mkV G h a (s + k) ty
  | [], s, k => by simp [mkF]
  | ty :: r, s, 0 => by simp [mkF]
  | ty :: r, s, k + 1 => by
    rw [mkF, List.getElem?_cons_succ, List.getElem?_cons_succ, mkF_at G h a r (s + 1) k, show s + 1 + k = s + (k + 1) by omega]
theorem mkF_len (G : GG) (h : Hp) (a : Ad) : ∀ (tys : List Nat) (s : Nat), (mkF G h a tys s).length = tys.length
  | [], s => rfl
  | ty :: r, s => by rw [mkF, List.length_cons, List.length_cons, mkF_len G h a r (s + 1)]
theorem mkF_set {G : GG} {h h' : Hp} {a : Ad} {tys : List Nat} {k ty : Nat} {v : Value} (hk : tys[k]? = some ty) (hv : mkV G h' a k ty = v) (ho : ∀ j ty' : Nat, j ≠ k → tys[j]? = some ty' → mkV G h' a j ty' = mkV G h a j ty') : (mkF G h a tys 0).set k v = mkF G h' a tys 0 := by
  apply List.ext_getElem?
  intro j
  have hl := (List.getElem?_eq_some_iff.mp hk).1
  by_cases hj : j = k
  · subst hj
    rw [List.getElem?_set_self (by rw [mkF_len]; exact hl), mkF_at, hk]
    simp [hv]
  · rw [List.getElem?_set_ne (Ne.symm hj), mkF_at, mkF_at]
    cases ht : tys[j]? with
    | none => rfl
    | some ty' => simp [ho j ty' hj ht]
theorem cellE_congr {G : GG} {h h' : Hp} {b : Ad} (h1 : ∀ s, gI h' b s = gI h b s) (h2 : ∀ s, gL h' b s = gL h b s) (h3 : ∀ s, gR h' b s = gR h b s) : cellE G h' b = cellE G h b := by
  have e1 : gI h' b = gI h b := funext h1
  have e2 : gL h' b = gL h b := funext h2
  have e3 : gR h' b = gR h b := funext h3
  have eV : ∀ (s ty : Nat), mkV G h' b s ty = mkV G h b s ty := fun s ty => by rw [mkV, mkV, h1, h2, h3]
  have eF : ∀ (tys : List Nat) (s : Nat), mkF G h' b tys s = mkF G h b tys s := by
    intro tys
    induction tys with
    | nil => intro s; rfl
    | cons ty r ih => intro s; rw [mkF, mkF, eV, ih]
  unfold cellE
  cases shp b.1 with
  | inl q => simp only [eF]
  | inr q => simp only [mkA, e1, e2, e3]
/-- what a write of one place must be: the same count, the same places elsewhere -/
def oneAt (h h' : Hp) (a : Ad) (k : Nat) : Prop := gn h' = gn h ∧ (∀ (b : Ad) (s : Nat), ¬ (b = a ∧ s = k) → gI h' b s = gI h b s ∧ gL h' b s = gL h b s ∧ gR h' b s = gR h b s)
theorem one_sI (h : Hp) (a : Ad) (k : Nat) (v : Int32) : oneAt h (sI h a k v) a k := ⟨rfl, fun b s q => ⟨by rw [gI_sI, if_neg q], rfl, rfl⟩⟩
theorem one_sL (h : Hp) (a : Ad) (k : Nat) (v : Int64) : oneAt h (sL h a k v) a k := ⟨rfl, fun b s q => ⟨rfl, by rw [gL_sL, if_neg q], rfl⟩⟩
theorem one_sR (h : Hp) (a : Ad) (k : Nat) (v : Option Nat) : oneAt h (sR h a k v) a k := ⟨rfl, fun b s q => ⟨rfl, rfl, by rw [gR_sR, if_neg q]⟩⟩
theorem oneAt.cell {G : GG} {h h' : Hp} {a b : Ad} {k : Nat} (w : oneAt h h' a k) (hb : b ≠ a) : cellE G h' b = cellE G h b := cellE_congr (fun s => (w.2 b s fun q => hb q.1).1) (fun s => (w.2 b s fun q => hb q.1).2.1) (fun s => (w.2 b s fun q => hb q.1).2.2)
theorem oneAt.fresh {h h' : Hp} {a : Ad} {k : Nat} (w : oneAt h h' a k) (hl : pos a < gn h) (hF : Fresh h) : Fresh h' := by
  intro j hj s
  rw [w.1] at hj
  have hne : ¬ (unp j = a ∧ s = k) := fun q => by
    have : pos (unp j) = j := pos_unp j
    rw [q.1] at this
    omega
  obtain ⟨e1, e2, e3⟩ := w.2 (unp j) s hne
  rw [e1, e2, e3]
  exact hF j hj s
theorem oneAt.WR {ph : Bool} {G : GG} {h h' : Hp} {H H1 : Heap} {a : Ad} {k : Nat} (w : oneAt h h' a k) (hl : pos a < gn h) (hW : WR ph G h H) (hz : H1.size = H.size) (hP : va_P G.2.2.1 vwCl (wl G h') H1) (hK : ph = true → ∀ (b : Ad) (s : Nat), (b = a ∧ s = k) → gR h' b s = gR h b s ∨ (FR b.1 b.2 s = none ∧ b.1 ≠ 4)) : WR ph G h' H1 := by
  obtain ⟨w1, w2, w3, w4⟩ := hW
  refine ⟨by rw [hz, w1, w.1], hP, w.fresh hl w3, fun q => ?_⟩
  obtain ⟨⟨f1, f2⟩, f3⟩ := w4 q
  refine ⟨⟨fun t i s j e1 e2 e3 => ?_, fun i hi => ?_⟩, by rw [w.1]; exact f3⟩
  · by_cases hq : ((t, i) : Ad) = a ∧ s = k
    · rcases hK q _ _ hq with h1 | ⟨h1, -⟩
      · rw [h1]; exact f1 t i s j e1 e2 e3
      · rw [h1] at e3; cases e3
    · rw [(w.2 _ _ hq).2.2]; exact f1 t i s j e1 e2 e3
  · by_cases hq : ((4, 0) : Ad) = a ∧ i = k
    · rcases hK q _ _ hq with h1 | ⟨-, h1⟩
      · rw [h1]; exact f2 i hi
      · exact absurd rfl h1
    · rw [(w.2 _ _ hq).2.2]; exact f2 i hi
theorem WR_put {ph : Bool} {G : GG} {h h' : Hp} {H H1 : Heap} {a : Ad} {k : Nat} (w : oneAt h h' a k) (hv : lvq ph h a) (hW : WR ph G h H) (hz : H1.size = H.size) (hc : va_at G.2.2.1 vwCl (loc G a, cellE G h' a) H1) (oq : ∀ q : Nat, q ≠ loc G a → H1[q]? = H[q]?) (hK : ph = true → ∀ (b : Ad) (s : Nat), (b = a ∧ s = k) → gR h' b s = gR h b s ∨ (FR b.1 b.2 s = none ∧ b.1 ≠ 4)) : WR ph G h' H1 := by
  refine w.WR (lvq_lt hW hv) hW hz ?_ hK
  have e := va_P.set hW.2.1 (wl_D G h) (wl_cell hW hv) hc oq
  rw [wl_set hv.1 w.1 fun b hb => w.cell hb] at e
  exact e
def FLk (own : String) (idx ci k : Nat) : Prop := ∃ (C : String) (T : u_T) (N : Nat) (ref : String), vwCl[ci]? = some (C, T, N) ∧ k < N ∧ (∀ w ∈ u_ws C T N, w ∈ TT) ∧ Cond.fieldLink own idx ref (T k).2.1 (T k).2.2.1 ∈ TT ∧ ((T k).1 = ref ∨ Cond.sameField ref (T k).1 (T k).2.1 (T k).2.2.1 ∈ TT)
def tyC : Nat → FieldType → Prop
  | 0, t => t = .int
  | 1, t => t = .boolean
  | 2, t => t = .long
  | _, t => (∃ n, t = .object n) ∨ ∃ u, t = .array u
def FPk (own : String) (idx ci k : Nat) (fin : Bool) (ty : Nat) : Prop := ∃ (C : String) (T : u_T) (N : Nat) (ref : String) (ty0 : Nat → FieldType) (t : FieldType), vwCl[ci]? = some (C, T, N) ∧ k < N ∧ (∀ w ∈ u_ws C T N, w ∈ TT) ∧ Cond.fieldLink own idx ref (T k).2.1 (T k).2.2.1 ∈ TT ∧ ((T k).1 = ref ∨ Cond.sameField ref (T k).1 (T k).2.1 (T k).2.2.1 ∈ TT) ∧ (∀ k, k < N → parseFieldDescriptor (T k).2.2.1 = some (ty0 k)) ∧ (∀ a, a < N → ∀ b, b < N → a ≠ b → (T a).2.1 ≠ (T b).2.1) ∧ (T k).2.2.2 = fin ∧ parseFieldDescriptor (T k).2.2.1 = some t ∧ tyC ty t ∧ (fin = true → (T k).1 = own)
theorem tyC_nf {ty : Nat} {t : FieldType} (ht : tyC ty t) {G : GG} {h : Hp} {a : Ad} {s : Nat} (hb : ty = 1 → gI h a s = 0 ∨ gI h a s = 1) : narrow t (mkV G h a s ty) = mkV G h a s ty ∧ fits t (mkV G h a s ty) = true := by
  match ty, ht with
  | 0, e => cases e; exact ⟨rfl, rfl⟩
  | 1, e =>
    cases e
    have e2 : mkV G h a s 1 = .int (gI h a s) := rfl
    rw [e2]
    rcases hb rfl with q | q <;> (rw [q]; exact ⟨by decide, by decide⟩)
  | 2, e => cases e; exact ⟨rfl, rfl⟩
  | k + 3, e =>
    have e2 : mkV G h a s (k + 3) = rO G (k + 3 - 100) (gR h a s) := by
      rw [mkV, if_neg (by omega), if_neg (by omega)]
    rw [e2]
    rcases e with ⟨n, rfl⟩ | ⟨u, rfl⟩ <;> cases gR h a s <;> exact ⟨rfl, rfl⟩
theorem mkV_R {G : GG} {h : Hp} {a : Ad} {s ty : Nat} (hty : 100 ≤ ty) : mkV G h a s ty = rO G (ty - 100) (gR h a s) := by rw [mkV, if_neg (by omega), if_neg (by omega)]
def inB (i : Int32) (n : Nat) : Bool := decide (0 ≤ i) && decide (i.toNatClampNeg < n)
theorem inB_vp {i : Int32} {n : Nat} (h : inB i n = true) : vp_in i n := by
  simp only [inB, Bool.and_eq_true, decide_eq_true_eq] at h
  rintro (q | q)
  · have h1 := h.1
    rw [Int32.le_iff_toInt_le] at h1
    rw [Int32.lt_iff_toInt_lt] at q
    have e : (0 : Int32).toInt = 0 := by decide
    omega
  · omega
section VR3
variable {ph : Bool} {G : GG} {p : Program} {l : Launch} {e : Env} {R : Room} {s : State} {m : MethodId} {args : Array Value} {below : List Frame} {meth : Method} {c : Code} {nL : Nat} {Q : State → Prop} {h : Hp} {cells slots pc pc' : Nat} {ls : List (Option AV)} {st : List AV} {cc : ByteArray} {own : String}
theorem v_getV (C : Cx G p s m c args cc nL own) {t i ci k ty idx : Nat} {tys : List Nat} {x : AV} (hf : FLk own idx ci k) (hs : shp t = .inl (ci, tys)) (hty : tys[k]? = some ty) (hv : lvq ph h (t, i)) (hd : decode cc pc = .ok (.getfield idx, 3)) (hp : pc + 3 = pc') (hx : ∀ H : Heap, WR ph G h H → mkV G h (t, i) k ty = vv G x) (kk : V ph G p l e R s m args below meth c nL Q h cells slots pc' ls (x :: st)) : V ph G p l e R s m args below meth c nL Q h cells slots pc ls (aA t (some i) :: st) := by
  subst hp
  intro H locs LS a b d
  obtain ⟨Cn, T, N, ref, q1, q2, q3, q4, q5⟩ := hf
  have hc : (wl G h)[pos (t, i)]? = some (loc G (t, i), .inr (ci, mkF G h (t, i) tys 0)) := by
    rw [wl_cell a hv]; unfold cellE; rw [show (((t, i) : Ad).1) = t from rfl, hs]
  refine va_get C.1 C.2.1 C.2.2.2.2.1 q3 C.2.2.2.1 C.2.2.2.2.2.1.1 a.2.1 (pos (t, i)) hc q1 k q2 (C.2.2.2.2.1 _ q4) ?_ (v := vv G x) ?_ hd (kk H locs LS a b d)
  · rcases q5 with q5 | q5
    · intro x hx; rw [← q5]; exact hx
    · intro x hx; exact u_same (C.2.2.2.2.1 _ q5) x hx
  · rw [mkF_at, hty, Option.map_some, Nat.zero_add, hx H a]
theorem v_getI (C : Cx G p s m c args cc nL own) {t i ci k idx : Nat} {tys : List Nat} (hf : FLk own idx ci k) (hs : shp t = .inl (ci, tys)) (hty : tys[k]? = some 0 ∨ tys[k]? = some 1) (hv : lvq ph h (t, i)) (hd : decode cc pc = .ok (.getfield idx, 3)) (hp : pc + 3 = pc') (kk : V ph G p l e R s m args below meth c nL Q h cells slots pc' ls (aI (gI h (t, i) k) :: st)) : V ph G p l e R s m args below meth c nL Q h cells slots pc ls (aA t (some i) :: st) := by
  rcases hty with hty | hty
  · exact v_getV C hf hs hty hv hd hp (fun _ _ => rfl) kk
  · exact v_getV C hf hs hty hv hd hp (fun _ _ => rfl) kk
theorem v_getL (C : Cx G p s m c args cc nL own) {t i ci k idx : Nat} {tys : List Nat} (hf : FLk own idx ci k) (hs : shp t = .inl (ci, tys)) (hty : tys[k]? = some 2) (hv : lvq ph h (t, i)) (hd : decode cc pc = .ok (.getfield idx, 3)) (hp : pc + 3 = pc') (kk : V ph G p l e R s m args below meth c nL Q h cells slots pc' ls (aL (gL h (t, i) k) :: st)) : V ph G p l e R s m args below meth c nL Q h cells slots pc ls (aA t (some i) :: st) := v_getV C hf hs hty hv hd hp (fun _ _ => rfl) kk
theorem v_getR (C : Cx G p s m c args cc nL own) {t i ci k idx ty t2 : Nat} {tys : List Nat} (hf : FLk own idx ci k) (hs : shp t = .inl (ci, tys)) (hty : tys[k]? = some ty) (ht2 : ty = 100 + t2) (hv : lvq ph h (t, i)) (hd : decode cc pc = .ok (.getfield idx, 3)) (hp : pc + 3 = pc') (kk : V ph G p l e R s m args below meth c nL Q h cells slots pc' ls (aA t2 (gR h (t, i) k) :: st)) : V ph G p l e R s m args below meth c nL Q h cells slots pc ls (aA t (some i) :: st) := v_getV C hf hs hty hv hd hp (fun _ _ => by rw [mkV_R (by omega), show ty - 100 = t2 by omega]; rfl) kk
/-- a final reference of the two made objects -/
theorem v_getF (C : Cx G p s m c args cc nL own) {t i ci k idx ty t2 j : Nat} {tys : List Nat} (hph : ph = true) (hf : FLk own idx ci k) (hs : shp t = .inl (ci, tys)) (hty : tys[k]? = some ty) (ht2 : ty = 100 + t2) (hj : FR t i k = some j) (hv : unp (pos (t, i)) = (t, i) ∧ pos (t, i) < 74) (hd : decode cc pc = .ok (.getfield idx, 3)) (hp : pc + 3 = pc') (kk : V ph G p l e R s m args below meth c nL Q h cells slots pc' ls (aA t2 (some j) :: st)) : V ph G p l e R s m args below meth c nL Q h cells slots pc ls (aA t (some i) :: st) := v_getV C hf hs hty ⟨hv.1, Or.inr ⟨hph, hv.2⟩⟩ hd hp (fun H hW => by rw [mkV_R (by omega), show ty - 100 = t2 by omega, (hW.2.2.2 hph).1.1 t i k j hv.1 hv.2 hj]; rfl) kk
theorem v_putG (C : Cx G p s m c args cc nL own) {t i ci k ty idx : Nat} {tys : List Nat} {h' : Hp} {x : AV} {fin : Bool} (hf : FPk own idx ci k fin ty) (hs : shp t = .inl (ci, tys)) (hty : tys[k]? = some ty) (hv : lvq ph h (t, i)) (hd : decode cc pc = .ok (.putfield idx, 3)) (hp : pc + 3 = pc') (hone : oneAt h h' (t, i) k) (hx : mkV G h' (t, i) k ty = vv G x) (hb : ty = 1 → gI h' (t, i) k = 0 ∨ gI h' (t, i) k = 1) (hfin : fin = true → meth.name = "<init>") (hK : ph = true → gR h' (t, i) k = gR h (t, i) k ∨ (FR t i k = none ∧ t ≠ 4)) (kk : V ph G p l e R s m args below meth c nL Q h' cells slots pc' ls st) : V ph G p l e R s m args below meth c nL Q h cells slots pc ls (x :: aA t (some i) :: st) := by
  subst hp
  intro H locs LS a b d
  obtain ⟨Cn, T, N, ref, ty0, tf, q1, q2, q3, q4, q5, q6, q7, q8, q9, q10, q11⟩ := hf
  have hc : (wl G h)[pos (t, i)]? = some (loc G (t, i), .inr (ci, mkF G h (t, i) tys 0)) := by
    rw [wl_cell a hv]; unfold cellE; rw [show (((t, i) : Ad).1) = t from rfl, hs]
  have hsame : ∀ x, s.fieldFound? (T k).1 (T k).2.1 (T k).2.2.1 = some x → s.fieldFound? ref (T k).2.1 (T k).2.2.1 = some x := by
    rcases q5 with q5 | q5
    · intro x hx; rw [← q5]; exact hx
    · intro x hx; exact u_same (C.2.2.2.2.1 _ q5) x hx
  obtain ⟨n1, n2⟩ := tyC_nf q10 (G := G) (h := h') (a := (t, i)) (s := k) hb
  rw [hx] at n1 n2
  have hlen : k < (mkF G h (t, i) tys 0).length := by rw [mkF_len]; exact (List.getElem?_eq_some_iff.mp hty).1
  have hset : (mkF G h (t, i) tys 0).set k (vv G x) = mkF G h' (t, i) tys 0 := mkF_set hty hx fun j ty' hj _ => by
    obtain ⟨e1, e2, e3⟩ := hone.2 (t, i) j (fun z => hj z.2)
    rw [mkV, mkV, e1, e2, e3]
  have hcell' : cellE G h' (t, i) = .inr (ci, mkF G h' (t, i) tys 0) := by unfold cellE; rw [show (((t, i) : Ad).1) = t from rfl, hs]
  have hap := va_apart (own := own) C.2.2.2.2.1 q3 ty0 q6 q7 C.2.2.2.2.2.1.1 q1
  obtain ⟨r, h1, cell, c1, c2, c3, c4⟩ := a.2.1 _ _ hc
  have hr : r = (Cn, T, N) := Option.some.inj (h1.symm.trans q1)
  subst hr
  obtain ⟨hSl, hfc, kC, hkC, hkind⟩ := C.2.2.2.2.2.1.1.1 ci _ q1
  obtain ⟨cf, kf, fi, f, hi, hsl⟩ := hSl k q2
  have hlay := C.2.2.2.2.1 _ (q3 _ (u_in_lay q2))
  have hst := (u_facts hfc hkC (u_lays C.2.2.2.2.1 q3 q2) hi).1
  have fin2 : ∀ (H1 : Heap), H1[loc G (t, i)]? = some (cell.setSlot f.slot (vv G x)) → H1.size = H.size → (∀ q, q ≠ loc G (t, i) → H1[q]? = H[q]?) → W p l e R s m args below meth c H1 (locs ++ [⟨loc G (t, i), f.slot⟩]) cells slots Q (F0 m (pc + 3) LS (st.map (vv G))) := by
    intro H1 e1 e2 e3
    refine kk H1 _ LS (WR_put hone hv a e2 ?_ e3 (fun z b2 s2 e2 => by obtain ⟨rfl, rfl⟩ := e2; exact hK z)) (b.put e2 e3 ((wl_D G h).2 _ _ hc)) d
    rw [hcell', ← hset]
    rw [hsl] at e1
    exact ⟨_, q1, t_OB.to (V := updV (vp_V (mkF G h (t, i) tys 0)) k (vv G x)) ⟨_, e1, c2, c3, t_set c4 hap q2 (vv G x)⟩ (fun j _ => vp_updV_set hlen (vv G x) j)⟩
  cases fin with
  | false =>
    unfold u_lay at hlay
    rw [if_neg (by rw [q8]; decide)] at hlay
    have h6 := u_store hfc hkC hkind hlay hi q9 n1 n2
    exact W.putK C.1 C.2.1 (f := f) ⟨C.2.2.2.1, C.2.2.2.2.1 _ q4, ⟨_, _, _, hsame _ hi⟩, hst⟩ (by rw [c2]; exact h6) c1 c3 (by rw [hsl]; exact k2_hasslot (c4 k q2)) rfl rfl hd fin2
  | true =>
    unfold u_lay at hlay
    rw [if_pos q8] at hlay
    have hcf : m.cls = cf := by
      obtain ⟨_, _, c', _, _, _, -, -, hf', -, -, -, hown2, -⟩ := Cond.laysFinal_spec hlay
      have e1 : c' = cf := by have := hi.symm.trans hf'; simp at this; exact this.1.symm
      rw [q11 rfl] at hown2
      rw [← e1]; exact Option.some.inj (C.2.2.2.1.symm.trans hown2)
    have h6 := u_fits hfc hkC hkind (Or.inr hlay) hi q9 n1 n2
    exact W.putFinK C.1 C.2.1 C.2.2.2.1 (C.2.2.2.2.1 _ q4) (hsame _ hi) hst hcf (hfin rfl) (by rw [c2]; exact h6) c1 c3 (by rw [hsl]; exact k2_hasslot (c4 k q2)) rfl rfl hd fin2
end VR3
