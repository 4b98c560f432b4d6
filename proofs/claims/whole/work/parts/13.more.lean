theorem lgc_lt {x y : Int64} : lg_cmp x y < 0 ↔ x < y := by
  unfold lg_cmp
  by_cases h : y < x
  · have h1 : ¬ x < y := by
      rw [Int64.lt_iff_toInt_lt] at *
      omega
    rw [if_pos h]
    exact ⟨fun z => absurd z (by decide), fun z => absurd z h1⟩
  · rw [if_neg h]
    by_cases h2 : x = y
    · rw [if_pos h2]
      exact ⟨fun z => absurd z (by decide), fun z => by rw [h2] at z; exact absurd z (by rw [Int64.lt_iff_toInt_lt]; omega)⟩
    · rw [if_neg h2]
      refine ⟨fun _ => ?_, fun _ => by decide⟩
      rw [Int64.lt_iff_toInt_lt] at *
      have : x.toInt ≠ y.toInt := fun z => h2 (Int64.toInt_inj.mp z)
      omega
theorem lgc_gt {x y : Int64} : 0 < lg_cmp x y ↔ y < x := by
  unfold lg_cmp
  by_cases h : y < x
  · rw [if_pos h]
    exact ⟨fun _ => h, fun _ => by decide⟩
  · rw [if_neg h]
    by_cases h2 : x = y
    · rw [if_pos h2]
      exact ⟨fun z => absurd z (by decide), fun z => absurd z h⟩
    · rw [if_neg h2]
      exact ⟨fun z => absurd z (by decide), fun z => absurd z h⟩
theorem lgc_ge {x y : Int64} : 0 ≤ lg_cmp x y ↔ y ≤ x := by
  rw [← Int32.not_lt, lgc_lt, Int64.not_lt]
theorem lgc_le {x y : Int64} : lg_cmp x y ≤ 0 ↔ x ≤ y := by
  rw [← Int32.not_lt, lgc_gt, Int64.not_lt]
def guardE {α : Type} (x : Option Nat) (h : Hp) (o : Option α) : Option α := if x = some 1 ∧ 75 < gn h then o else none
theorem guardE_some {α : Type} {x : Option Nat} {h : Hp} {o : Option α} {r : α} (hh : guardE x h o = some r) : x = some 1 ∧ lvq true h (16, 1) ∧ o = some r := by
  unfold guardE at hh
  by_cases q : x = some 1 ∧ 75 < gn h
  · rw [if_pos q] at hh; exact ⟨q.1, ⟨by decide +kernel, Or.inl (by rw [show pos (16, 1) = 75 by decide +kernel]; exact q.2)⟩, hh⟩
  · rw [if_neg q] at hh; cases hh
def nda (h : Hp) (o : Option Nat) : Option Nat := o.bind fun i => if i < 4 ∧ pos (15, i) < gn h then some i else none
theorem nda_some {h : Hp} {o : Option Nat} {i : Nat} (hh : nda h o = some i) : o = some i ∧ lvq true h (15, i) := by
  obtain ⟨j, rfl, h2⟩ := bind_some hh
  by_cases q : j < 4 ∧ pos (15, j) < gn h
  · rw [if_pos q] at h2
    cases h2
    refine ⟨rfl, ?_, Or.inl q.2⟩
    have := q.1
    rcases (show i = 0 ∨ i = 1 ∨ i = 2 ∨ i = 3 by omega) with rfl | rfl | rfl | rfl <;> decide +kernel
  · rw [if_neg q] at h2; cases h2
def guardY {α : Type} (x : Int32) (o : Option α) : Option α := if x = 0 ∨ x = 1 then o else none
theorem guardY_some {α : Type} {x : Int32} {o : Option α} {r : α} (h : guardY x o = some r) : (x = 0 ∨ x = 1) ∧ o = some r := by
  unfold guardY at h
  by_cases q : x = 0 ∨ x = 1
  · rw [if_pos q] at h; exact ⟨q, h⟩
  · rw [if_neg q] at h; cases h
/-- System.arraycopy of ints between cells a and b -/
def cpI (h : Hp) (a b : Ad) (sp dp n : Nat) : Hp := (fun x t => if x = b ∧ dp ≤ t ∧ t < dp + n then h.1 a (sp + (t - dp)) else h.1 x t, h.2)
theorem gI_cpI (h : Hp) (a b x : Ad) (sp dp n t : Nat) : gI (cpI h a b sp dp n) x t = if x = b ∧ dp ≤ t ∧ t < dp + n then gI h a (sp + (t - dp)) else gI h x t := rfl
theorem gL_cpI (h : Hp) (a b x : Ad) (sp dp n t : Nat) : gL (cpI h a b sp dp n) x t = gL h x t := rfl
theorem gR_cpI (h : Hp) (a b x : Ad) (sp dp n t : Nat) : gR (cpI h a b sp dp n) x t = gR h x t := rfl
theorem gn_cpI (h : Hp) (a b : Ad) (sp dp n : Nat) : gn (cpI h a b sp dp n) = gn h := rfl
def okA (sp : Int32) (n0 : Nat) (dp : Int32) (n1 : Nat) (n : Int32) : Bool := decide (¬ sp < 0) && decide (¬ dp < 0) && decide (¬ n < 0) && decide (sp.toNatClampNeg + n.toNatClampNeg ≤ n0) && decide (dp.toNatClampNeg + n.toNatClampNeg ≤ n1)
def guardA {α : Type} (sp : Int32) (n0 : Nat) (dp : Int32) (n1 : Nat) (n : Int32) (o : Option α) : Option α := if okA sp n0 dp n1 n = true then o else none
theorem guardA_some {α : Type} {sp dp n : Int32} {n0 n1 : Nat} {o : Option α} {r : α} (h : guardA sp n0 dp n1 n o = some r) : okA sp n0 dp n1 n = true ∧ o = some r := by
  unfold guardA at h
  by_cases q : okA sp n0 dp n1 n = true
  · rw [if_pos q] at h; exact ⟨q, h⟩
  · rw [if_neg q] at h; cases h
theorem WR_cell {ph : Bool} {G : GG} {h h' : Hp} {H H1 : Heap} {a : Ad} (hn : gn h' = gn h) (ho : ∀ (b : Ad) (s : Nat), b ≠ a → gI h' b s = gI h b s ∧ gL h' b s = gL h b s ∧ gR h' b s = gR h b s) (hR : ∀ (b : Ad) (s : Nat), gR h' b s = gR h b s) (hv : lvq ph h a) (hW : WR ph G h H) (hz : H1.size = H.size) (hc : va_at G.2.2.1 vwCl (loc G a, cellE G h' a) H1) (oq : ∀ q : Nat, q ≠ loc G a → H1[q]? = H[q]?) : WR ph G h' H1 := by
  have hl := lvq_lt hW hv
  have e := va_P.set hW.2.1 (wl_D G h) (wl_cell hW hv) hc oq
  rw [wl_set hv.1 hn fun b hb => cellE_congr (fun s => (ho b s hb).1) (fun s => (ho b s hb).2.1) (fun s => (ho b s hb).2.2)] at e
  obtain ⟨w1, w2, w3, w4⟩ := hW
  refine ⟨by rw [hz, w1, hn], e, fun j hj s => ?_, fun q => ?_⟩
  · rw [hn] at hj
    have hne : unp j ≠ a := fun q => by
      have : pos (unp j) = j := pos_unp j
      rw [q] at this
      omega
    obtain ⟨e1, e2, e3⟩ := ho (unp j) s hne
    rw [e1, e2, e3]
    exact w3 j hj s
  · obtain ⟨⟨f1, f2⟩, f3⟩ := w4 q
    exact ⟨⟨fun t i s j e1 e2 e3 => by rw [hR]; exact f1 t i s j e1 e2 e3, fun i hi => by rw [hR]; exact f2 i hi⟩, by rw [hn]; exact f3⟩
section VM
variable {ph : Bool} {G : GG} {p : Program} {l : Launch} {e : Env} {R : Room} {s : State} {m : MethodId} {args : Array Value} {below : List Frame} {meth : Method} {c : Code} {nL : Nat} {Q : State → Prop} {h h' : Hp} {cells slots pc pc' : Nat} {ls : List (Option AV)} {st rest : List AV} {cc : ByteArray} {own : String} {rv : Option AV} {mc ms : Nat}
theorem v_cast15 (C : Cx G p s m c args cc nL own) {i idx : Nat} (hv : lvq ph h (15, i)) (hw : Cond.classLink own idx "RootedFerry$Account" ∈ TT) (hd : decode cc pc = .ok (.checkcast idx, 3)) (hp : pc + 3 = pc') (kk : V ph G p l e R s m args below meth c nL Q h cells slots pc' ls (aA 15 (some i) :: st)) : V ph G p l e R s m args below meth c nL Q h cells slots pc ls (aA 15 (some i) :: st) := by
  subst hp
  intro H locs LS a b d
  have hc : (wl G h)[pos (15, i)]? = some (loc G (15, i), .inr (1, mkF G h (15, i) [2, 2, 105] 0)) := by
    rw [wl_cell a hv]; rfl
  exact va_castE C.1 C.2.1 C.2.2.2.1 (C.2.2.2.2.1 _ hw) (va_recv C.2.2.2.2.2.1.1 a.2.1 (ci := 1) rfl hc) hd (kk H locs LS a b d)
theorem v_oinit (C : Cx G p s m c args cc nL own) {t i idx : Nat} (hw : Cond.methodLink own idx objectInit ∈ TT) (hd : decode cc pc = .ok (.invokespecial idx, 3)) (hp : pc + 3 = pc') (hfr : 1 ≤ R.frames) (hlo : (st.map fun x => if isW x then 2 else 1).sum + 12 ≤ R.locals) (kk : V ph G p l e R s m args below meth c nL Q h cells slots pc' ls st) : V ph G p l e R s m args below meth c nL Q h cells slots pc ls (aA t (some i) :: st) := by
  subst hp
  intro H locs LS a b d
  refine W.objInit (rest := st.map (vv G)) (a := loc G (t, i)) C.1 C.2.1 C.2.2.2.1 (C.2.2.2.2.1 _ hw) (C.2.2.2.2.1 _ (TT_of (i := 103) (by decide +kernel) (by decide +kernel))) (C.2.2.2.2.1 _ (TT_of (i := 104) (by decide +kernel) (by decide +kernel))) rfl (by rw [C.2.2.1]; exact d.1) rfl hd hfr (by show 2 * 0 + _ + 12 ≤ _; rw [rest_cat]; omega) (kk H locs LS a b d)
theorem v_acopy (C : Cx G p s m c args cc nL own) {t i t2 i2 len len2 idx : Nat} {sp dp n : Int32} (hs : shp t = .inr (0, len)) (hs2 : shp t2 = .inr (0, len2)) (hne : t ≠ t2) (hok : okA sp len dp len2 n = true) (hv : lvq ph h (t, i)) (hv2 : lvq ph h (t2, i2)) (hw : Cond.methodLink own idx arraycopyName ∈ TT) (hd : decode cc pc = .ok (.invokestatic idx, 3)) (hp : pc + 3 = pc') (hfr : 1 ≤ R.frames) (hlo : (st.map fun x => if isW x then 2 else 1).sum + (nativeFrameWords "java/lang/System" "arraycopy" 5 + 11) ≤ R.locals) (kk : V ph G p l e R s m args below meth c nL Q (cpI h (t, i) (t2, i2) sp.toNatClampNeg dp.toNatClampNeg n.toNatClampNeg) cells slots pc' ls st) : V ph G p l e R s m args below meth c nL Q h cells slots pc ls (aI n :: aI dp :: aA t2 (some i2) :: aI sp :: aA t (some i) :: st) := by
  subst hp
  simp only [okA, Bool.and_eq_true, decide_eq_true_eq] at hok
  obtain ⟨⟨⟨⟨h1, h2⟩, h3⟩, h4⟩, h5⟩ := hok
  intro H locs LS a b d T hT X
  have hc0 := arr_cell hs a hv
  have hc1 := arr_cell hs2 a hv2
  have hd0 : H[loc G (t, i)]? = some (vp_cell (G.2.2.2 0) (len, .inl (gI h (t, i)))) := a.2.1 _ _ hc0
  have hd1 : H[loc G (t2, i2)]? = some (vp_cell (G.2.2.2 0) (len2, .inl (gI h (t2, i2)))) := a.2.1 _ _ hc1
  have hK := C.2.2.2.2.2.1.1
  obtain ⟨-, k0, hk0, cm0, hkk0⟩ := (hK.2 0 _ (tys_at G (by decide))).1 len (fun j => .int (gI h (t, i) j))
  obtain ⟨-, k1, hk1, cm1, hkk1⟩ := (hK.2 0 _ (tys_at G (by decide))).1 len2 (fun j => .int (gI h (t2, i2) j))
  have nn : ∀ z : Int32, ¬ z < 0 → z.toInt = (z.toNatClampNeg : Int) := by
    intro z hz
    have hz0 : (0 : Int) ≤ z.toInt := by
      have := Int32.not_lt.mp hz
      simpa using Int32.le_iff_toInt_le.mp this
    show z.toInt = ((z.toInt.toNat : Nat) : Int)
    omega
  obtain ⟨vm', X', step⟩ := X.arraycopy C.1 C.2.2.2.1 (C.2.2.2.2.1 _ hw) (C.2.2.2.2.1 _ (TT_of (i := 471) (by decide +kernel) (by decide +kernel))) (C.2.2.2.2.1 _ (TT_of (i := 470) (by decide +kernel) (by decide +kernel))) (C.2.2.2.2.1 _ (TT_of (i := 92) (by decide +kernel) (by decide +kernel))) (src := loc G (t, i)) (dst := loc G (t2, i2)) (cs := vp_cell (G.2.2.2 0) (len, .inl (gI h (t, i)))) (cd := vp_cell (G.2.2.2 0) (len2, .inl (gI h (t2, i2)))) (srcPos := sp) (destPos := dp) (n := n) (by rw [hT]; exact hd0) (by rw [hT]; exact hd1)
    (fun _ h => by cases h) (fun _ h => by cases h) (fun h => by cases h) (fun h => by cases h) hk0 hk1 hkk0 hkk1 (by simp [aTy, refKind]) h1 h2 h3
    (by rw [nn sp h1, nn n h3]; show ¬ _ > ((arrV (G.2.2.2 0) len (fun j => .int (gI h (t, i) j))).slots.size : Int); rw [arrV_size]; omega)
    (by rw [nn dp h2, nn n h3]; show ¬ _ > ((arrV (G.2.2.2 0) len2 (fun j => .int (gI h (t2, i2) j))).slots.size : Int); rw [arrV_size]; omega)
    (fun vm₁ _ j hj => by
      have e : (vp_cell (G.2.2.2 0) (len, .inl (gI h (t, i)))).slots.getD (sp.toNatClampNeg + j) .null = .int (gI h (t, i) (sp.toNatClampNeg + j)) := by
        show (arrV (G.2.2.2 0) len (fun j => .int (gI h (t, i) j))).slots.getD _ _ = _
        rw [Array.getD_eq_getD_getElem?, arrV_read _ _ (by omega)]
        rfl
      refine ⟨?_, ?_⟩
      · rw [e]; rfl
      · rw [e]; exact trivial)
    (g := F0 m pc LS ((aI n :: aI dp :: aA t2 (some i2) :: aI sp :: aA t (some i) :: st).map (vv G))) rfl (by show LS.size = _; rw [C.2.2.1]; exact d.1) (rest := st.map (vv G)) rfl (by rw [C.2.1]; exact hd) hfr (by show 2 * 0 + _ + _ ≤ _; rw [rest_cat]; omega)
  have e1 : copied (vp_cell (G.2.2.2 0) (len, .inl (gI h (t, i)))) (vp_cell (G.2.2.2 0) (len2, .inl (gI h (t2, i2)))) sp dp n = vp_cell (G.2.2.2 0) (len2, .inl (va_cpy (gI h (t, i)) (gI h (t2, i2)) sp.toNatClampNeg dp.toNatClampNeg n.toNatClampNeg)) := va_copied (fun z => .int z) (G.2.2.2 0) (G.2.2.2 0) (gI h (t, i)) (gI h (t2, i2)) h4
  rw [e1] at X' step
  have hl : loc G (t2, i2) < H.size := (Array.getElem?_eq_some_iff.mp hd1).1
  have hcI : (gI (cpI h (t, i) (t2, i2) sp.toNatClampNeg dp.toNatClampNeg n.toNatClampNeg) (t2, i2)) = va_cpy (gI h (t, i)) (gI h (t2, i2)) sp.toNatClampNeg dp.toNatClampNeg n.toNatClampNeg := by
    funext q
    rw [gI_cpI]
    by_cases hq : dp.toNatClampNeg ≤ q ∧ q < dp.toNatClampNeg + n.toNatClampNeg
    · rw [if_pos ⟨rfl, hq⟩, va_cpy, if_pos hq]
    · rw [if_neg (fun z => hq z.2), va_cpy, if_neg hq]
  have hheap : ((T.setVm vm').setCell (loc G (t2, i2)) (vp_cell (G.2.2.2 0) (len2, .inl (va_cpy (gI h (t, i)) (gI h (t2, i2)) sp.toNatClampNeg dp.toNatClampNeg n.toNatClampNeg)))).heap = H.setIfInBounds (loc G (t2, i2)) (vp_cell (G.2.2.2 0) (len2, .inl (va_cpy (gI h (t, i)) (gI h (t2, i2)) sp.toNatClampNeg dp.toNatClampNeg n.toNatClampNeg))) := by rw [← hT]; rfl
  have oq : ∀ q : Nat, q ≠ loc G (t2, i2) → (H.setIfInBounds (loc G (t2, i2)) (vp_cell (G.2.2.2 0) (len2, .inl (va_cpy (gI h (t, i)) (gI h (t2, i2)) sp.toNatClampNeg dp.toNatClampNeg n.toNatClampNeg))))[q]? = H[q]? := fun q hq => by simp [Array.getElem?_setIfInBounds, Ne.symm hq]
  have hWR : WR ph G (cpI h (t, i) (t2, i2) sp.toNatClampNeg dp.toNatClampNeg n.toNatClampNeg) (H.setIfInBounds (loc G (t2, i2)) (vp_cell (G.2.2.2 0) (len2, .inl (va_cpy (gI h (t, i)) (gI h (t2, i2)) sp.toNatClampNeg dp.toNatClampNeg n.toNatClampNeg)))) := by
    refine WR_cell (h := h) (a := (t2, i2)) rfl (fun b s hb => ⟨by rw [gI_cpI, if_neg (fun z => hb z.1)], rfl, rfl⟩) (fun _ _ => rfl) hv2 a (by simp) ?_ oq
    unfold cellE
    rw [show (((t2, i2) : Ad).1) = t2 from rfl, hs2]
    show (H.setIfInBounds (loc G (t2, i2)) _)[loc G (t2, i2)]? = some (vp_cell _ (len2, .inl (gI (cpI h (t, i) (t2, i2) sp.toNatClampNeg dp.toNatClampNeg n.toNatClampNeg) (t2, i2))))
    rw [hcI]
    simp [Array.getElem?_setIfInBounds, hl]
  have hA := (wl_D G h).2 _ _ hc1
  obtain ⟨t3, a1, b1⟩ := kk _ _ LS hWR ⟨by simp; exact b.1, fun q g1 g2 => by
      rw [oq q (fun e => g2 (by rw [e]; exact hA))]
      exact b.2.1 q g1 g2, fun q hq => by
      rcases List.mem_append.mp hq with z | z
      · exact b.2.2 q z
      · obtain ⟨z, -, hz⟩ := List.mem_map.mp z
        rw [← hz]
        exact hA⟩ d _ hheap X'
  exact ⟨t3, step t3 a1, b1⟩
end VM
section VM2
variable {ph : Bool} {G : GG} {p : Program} {l : Launch} {e : Env} {R : Room} {s : State} {m : MethodId} {args : Array Value} {below : List Frame} {meth : Method} {c : Code} {nL : Nat} {h h' : Hp} {cells slots pc pc' : Nat} {ls : List (Option AV)} {st rest : List AV} {cc : ByteArray} {own : String} {rv : Option AV} {mc ms : Nat}
theorem v_rety (C : Cx G p s m c args cc nL own) {x : Int32} (hr : meth.sig.returnType = some .byte) (hlk : meth.locks = false) (hz : x = 0 ∨ x = 1) (hd : decode cc pc = .ok (.ireturn, 1)) : V ph G p l e R s m args below meth c nL (MQ below (QcA ph G (some (aI x)) h) args s cells slots (A_ G)) h cells slots pc ls [aI x] := by
  intro H locs LS a b d
  have hlocks := hlk
  exact W.zret C.1 C.2.1 hr (by rcases hz with rfl | rfl <;> decide) (fun t ht _ => ⟨⟨rfl, by rw [ht]; exact a⟩, b.F ht⟩) b.2.2 hd
end VM2
