section VR4
variable {ph : Bool} {G : GG} {p : Program} {l : Launch} {e : Env} {R : Room} {s : State} {m : MethodId} {args : Array Value} {below : List Frame} {meth : Method} {c : Code} {nL : Nat} {Q : State → Prop} {h : Hp} {cells slots pc pc' : Nat} {ls : List (Option AV)} {st : List AV} {cc : ByteArray} {own : String}
theorem v_putI (C : Cx G p s m c args cc nL own) {t i ci k idx : Nat} {tys : List Nat} {x : Int32} (hf : FPk own idx ci k false 0) (hs : shp t = .inl (ci, tys)) (hty : tys[k]? = some 0) (hv : lvq ph h (t, i)) (hd : decode cc pc = .ok (.putfield idx, 3)) (hp : pc + 3 = pc') (kk : V ph G p l e R s m args below meth c nL Q (sI h (t, i) k x) cells slots pc' ls st) : V ph G p l e R s m args below meth c nL Q h cells slots pc ls (aI x :: aA t (some i) :: st) := v_putG C hf hs hty hv hd hp (one_sI h (t, i) k x) (by show Value.int (gI (sI h (t, i) k x) (t, i) k) = _; rw [gI_sI, if_pos ⟨rfl, rfl⟩]; rfl) (fun z => by cases z) (fun z => by cases z) (fun _ => Or.inl rfl) kk
theorem v_putZ (C : Cx G p s m c args cc nL own) {t i ci k idx : Nat} {tys : List Nat} {x : Int32} (hf : FPk own idx ci k false 1) (hs : shp t = .inl (ci, tys)) (hty : tys[k]? = some 1) (hv : lvq ph h (t, i)) (hd : decode cc pc = .ok (.putfield idx, 3)) (hp : pc + 3 = pc') (hz : x = 0 ∨ x = 1) (kk : V ph G p l e R s m args below meth c nL Q (sI h (t, i) k x) cells slots pc' ls st) : V ph G p l e R s m args below meth c nL Q h cells slots pc ls (aI x :: aA t (some i) :: st) := v_putG C hf hs hty hv hd hp (one_sI h (t, i) k x) (by show Value.int (gI (sI h (t, i) k x) (t, i) k) = _; rw [gI_sI, if_pos ⟨rfl, rfl⟩]; rfl) (fun _ => by rw [gI_sI, if_pos ⟨rfl, rfl⟩]; exact hz) (fun z => by cases z) (fun _ => Or.inl rfl) kk
theorem v_putL (C : Cx G p s m c args cc nL own) {t i ci k idx : Nat} {tys : List Nat} {x : Int64} (hf : FPk own idx ci k false 2) (hs : shp t = .inl (ci, tys)) (hty : tys[k]? = some 2) (hv : lvq ph h (t, i)) (hd : decode cc pc = .ok (.putfield idx, 3)) (hp : pc + 3 = pc') (kk : V ph G p l e R s m args below meth c nL Q (sL h (t, i) k x) cells slots pc' ls st) : V ph G p l e R s m args below meth c nL Q h cells slots pc ls (aL x :: aA t (some i) :: st) := v_putG C hf hs hty hv hd hp (one_sL h (t, i) k x) (by show Value.long (gL (sL h (t, i) k x) (t, i) k) = _; rw [gL_sL, if_pos ⟨rfl, rfl⟩]; rfl) (fun z => by cases z) (fun z => by cases z) (fun _ => Or.inl rfl) kk
theorem v_putR (C : Cx G p s m c args cc nL own) {t i ci k idx : Nat} {tys : List Nat} {ty t2 : Nat} {x : Option Nat} (hf : FPk own idx ci k false ty) (hs : shp t = .inl (ci, tys)) (hty : tys[k]? = some ty) (hv : lvq ph h (t, i)) (hd : decode cc pc = .ok (.putfield idx, 3)) (hp : pc + 3 = pc') (ht2 : ty = 100 + t2) (hK : ph = true → FR t i k = none ∧ t ≠ 4) (kk : V ph G p l e R s m args below meth c nL Q (sR h (t, i) k x) cells slots pc' ls st) : V ph G p l e R s m args below meth c nL Q h cells slots pc ls (aA t2 x :: aA t (some i) :: st) := v_putG C hf hs hty hv hd hp (one_sR h (t, i) k x) (by rw [mkV_R (by omega), gR_sR, if_pos ⟨rfl, rfl⟩, show ty - 100 = t2 by omega]; rfl) (fun z => by omega) (fun z => by cases z) (fun z => Or.inr (hK z)) kk
theorem v_putFI (C : Cx G p s m c args cc nL own) {t i ci k idx : Nat} {tys : List Nat} {x : Int32} (hf : FPk own idx ci k true 0) (hs : shp t = .inl (ci, tys)) (hty : tys[k]? = some 0) (hv : lvq ph h (t, i)) (hd : decode cc pc = .ok (.putfield idx, 3)) (hp : pc + 3 = pc') (hin : meth.name = "<init>") (kk : V ph G p l e R s m args below meth c nL Q (sI h (t, i) k x) cells slots pc' ls st) : V ph G p l e R s m args below meth c nL Q h cells slots pc ls (aI x :: aA t (some i) :: st) := v_putG C hf hs hty hv hd hp (one_sI h (t, i) k x) (by show Value.int (gI (sI h (t, i) k x) (t, i) k) = _; rw [gI_sI, if_pos ⟨rfl, rfl⟩]; rfl) (fun z => by cases z) (fun _ => hin) (fun _ => Or.inl rfl) kk
theorem v_putFZ (C : Cx G p s m c args cc nL own) {t i ci k idx : Nat} {tys : List Nat} {x : Int32} (hf : FPk own idx ci k true 1) (hs : shp t = .inl (ci, tys)) (hty : tys[k]? = some 1) (hv : lvq ph h (t, i)) (hd : decode cc pc = .ok (.putfield idx, 3)) (hp : pc + 3 = pc') (hz : x = 0 ∨ x = 1) (hin : meth.name = "<init>") (kk : V ph G p l e R s m args below meth c nL Q (sI h (t, i) k x) cells slots pc' ls st) : V ph G p l e R s m args below meth c nL Q h cells slots pc ls (aI x :: aA t (some i) :: st) := v_putG C hf hs hty hv hd hp (one_sI h (t, i) k x) (by show Value.int (gI (sI h (t, i) k x) (t, i) k) = _; rw [gI_sI, if_pos ⟨rfl, rfl⟩]; rfl) (fun _ => by rw [gI_sI, if_pos ⟨rfl, rfl⟩]; exact hz) (fun _ => hin) (fun _ => Or.inl rfl) kk
theorem v_putFL (C : Cx G p s m c args cc nL own) {t i ci k idx : Nat} {tys : List Nat} {x : Int64} (hf : FPk own idx ci k true 2) (hs : shp t = .inl (ci, tys)) (hty : tys[k]? = some 2) (hv : lvq ph h (t, i)) (hd : decode cc pc = .ok (.putfield idx, 3)) (hp : pc + 3 = pc') (hin : meth.name = "<init>") (kk : V ph G p l e R s m args below meth c nL Q (sL h (t, i) k x) cells slots pc' ls st) : V ph G p l e R s m args below meth c nL Q h cells slots pc ls (aL x :: aA t (some i) :: st) := v_putG C hf hs hty hv hd hp (one_sL h (t, i) k x) (by show Value.long (gL (sL h (t, i) k x) (t, i) k) = _; rw [gL_sL, if_pos ⟨rfl, rfl⟩]; rfl) (fun z => by cases z) (fun _ => hin) (fun _ => Or.inl rfl) kk
theorem v_putFR (C : Cx G p s m c args cc nL own) {t i ci k idx : Nat} {tys : List Nat} {ty t2 : Nat} {x : Option Nat} (hf : FPk own idx ci k true ty) (hs : shp t = .inl (ci, tys)) (hty : tys[k]? = some ty) (hv : lvq ph h (t, i)) (hd : decode cc pc = .ok (.putfield idx, 3)) (hp : pc + 3 = pc') (ht2 : ty = 100 + t2) (hK : ph = true → FR t i k = none ∧ t ≠ 4) (hin : meth.name = "<init>") (kk : V ph G p l e R s m args below meth c nL Q (sR h (t, i) k x) cells slots pc' ls st) : V ph G p l e R s m args below meth c nL Q h cells slots pc ls (aA t2 x :: aA t (some i) :: st) := v_putG C hf hs hty hv hd hp (one_sR h (t, i) k x) (by rw [mkV_R (by omega), gR_sR, if_pos ⟨rfl, rfl⟩, show ty - 100 = t2 by omega]; rfl) (fun z => by omega) (fun _ => hin) (fun z => Or.inr (hK z)) kk
theorem tys_at (G : GG) {k : Nat} (hk : k < 5) : (tysL G)[k]? = some (G.2.2.2 k, aTy k) := by simp [tysL, hk]
theorem arr_cell {ph : Bool} {G : GG} {h : Hp} {H : Heap} {t i k len : Nat} (hs : shp t = .inr (k, len)) (hW : WR ph G h H) (hv : lvq ph h (t, i)) : (wl G h)[pos (t, i)]? = some (loc G (t, i), .inl (G.2.2.2 k, mkA G h (t, i) k len)) := by
  rw [wl_cell hW hv]; unfold cellE; rw [show (((t, i) : Ad).1) = t from rfl, hs]
theorem v_iald (C : Cx G p s m c args cc nL own) {t i len : Nat} {x : Int32} (hs : shp t = .inr (0, len)) (hv : lvq ph h (t, i)) (hin : inB x len = true) (hd : decode cc pc = .ok (.iaload, 1)) (hp : pc + 1 = pc') (kk : V ph G p l e R s m args below meth c nL Q h cells slots pc' ls (aI (gI h (t, i) x.toNatClampNeg) :: st)) : V ph G p l e R s m args below meth c nL Q h cells slots pc ls (aI x :: aA t (some i) :: st) := by
  subst hp
  exact fun H locs LS a b d => va_iald C.1 C.2.1 C.2.2.2.2.2.1.1 a.2.1 (pos (t, i)) 0 (arr_cell hs a hv) (tys_at G (by decide)) (inB_vp hin) hd (kk H locs LS a b d)
theorem v_cald (C : Cx G p s m c args cc nL own) {t i len : Nat} {x : Int32} (hs : shp t = .inr (1, len)) (hv : lvq ph h (t, i)) (hin : inB x len = true) (hd : decode cc pc = .ok (.caload, 1)) (hp : pc + 1 = pc') (kk : V ph G p l e R s m args below meth c nL Q h cells slots pc' ls (aI (gI h (t, i) x.toNatClampNeg) :: st)) : V ph G p l e R s m args below meth c nL Q h cells slots pc ls (aI x :: aA t (some i) :: st) := by
  subst hp
  exact fun H locs LS a b d => va_cald C.1 C.2.1 C.2.2.2.2.2.1.1 a.2.1 (pos (t, i)) 1 (arr_cell hs a hv) (tys_at G (by decide)) (inB_vp hin) hd (kk H locs LS a b d)
theorem v_lald (C : Cx G p s m c args cc nL own) {t i len : Nat} {x : Int32} (hs : shp t = .inr (2, len)) (hv : lvq ph h (t, i)) (hin : inB x len = true) (hd : decode cc pc = .ok (.laload, 1)) (hp : pc + 1 = pc') (kk : V ph G p l e R s m args below meth c nL Q h cells slots pc' ls (aL (gL h (t, i) x.toNatClampNeg) :: st)) : V ph G p l e R s m args below meth c nL Q h cells slots pc ls (aI x :: aA t (some i) :: st) := by
  subst hp
  exact fun H locs LS a b d => va_lald C.1 C.2.1 C.2.2.2.2.2.1.1 a.2.1 (pos (t, i)) 2 (arr_cell hs a hv) (tys_at G (by decide)) (inB_vp hin) hd (kk H locs LS a b d)
theorem v_aaldN (C : Cx G p s m c args cc nL own) {t i len : Nat} {x : Int32} (hs : shp t = .inr (3, len)) (hv : lvq ph h (t, i)) (hin : inB x len = true) (hd : decode cc pc = .ok (.aaload, 1)) (hp : pc + 1 = pc') (kk : V ph G p l e R s m args below meth c nL Q h cells slots pc' ls (aA 5 (gR h (t, i) x.toNatClampNeg) :: st)) : V ph G p l e R s m args below meth c nL Q h cells slots pc ls (aI x :: aA t (some i) :: st) := by
  subst hp
  exact fun H locs LS a b d => va_aldq C.1 C.2.1 C.2.2.2.2.2.1.1 a.2.1 (pos (t, i)) 3 (arr_cell hs a hv) (tys_at G (by decide)) (inB_vp hin) hd (kk H locs LS a b d)
theorem v_aaldO (C : Cx G p s m c args cc nL own) {t i len : Nat} {x : Int32} (hs : shp t = .inr (4, len)) (hv : lvq ph h (t, i)) (hin : inB x len = true) (hd : decode cc pc = .ok (.aaload, 1)) (hp : pc + 1 = pc') (kk : V ph G p l e R s m args below meth c nL Q h cells slots pc' ls (aA 15 (gR h (t, i) x.toNatClampNeg) :: st)) : V ph G p l e R s m args below meth c nL Q h cells slots pc ls (aI x :: aA t (some i) :: st) := by
  subst hp
  exact fun H locs LS a b d => va_aldq C.1 C.2.1 C.2.2.2.2.2.1.1 a.2.1 (pos (t, i)) 4 (arr_cell hs a hv) (tys_at G (by decide)) (inB_vp hin) hd (kk H locs LS a b d)
/-- a place of Tree.all -/
theorem v_aaldF (C : Cx G p s m c args cc nL own) {x : Int32} (hph : ph = true) (hin : inB x 24 = true) (hd : decode cc pc = .ok (.aaload, 1)) (hp : pc + 1 = pc') (kk : V ph G p l e R s m args below meth c nL Q h cells slots pc' ls (aA 5 (some x.toNatClampNeg) :: st)) : V ph G p l e R s m args below meth c nL Q h cells slots pc ls (aI x :: aA 4 (some 0) :: st) := by
  have hlt : x.toNatClampNeg < 24 := by
    simp only [inB, Bool.and_eq_true, decide_eq_true_eq] at hin
    exact hin.2
  refine v_aaldN (t := 4) (i := 0) (len := 24) C rfl ⟨by decide, Or.inr ⟨hph, by decide⟩⟩ hin hd hp ?_
  intro H locs LS a b d
  have e := (a.2.2.2 hph).1.2 _ hlt
  rw [e]
  exact kk H locs LS a b d
theorem v_alen (C : Cx G p s m c args cc nL own) {t i len : Nat} {k : Nat} {v : Int32} (hs : shp t = .inr (k, len)) (hk : k < 5) (hv : lvq ph h (t, i)) (hl : Int32.ofNat len = v) (hd : decode cc pc = .ok (.arraylength, 1)) (hp : pc + 1 = pc') (kk : V ph G p l e R s m args below meth c nL Q h cells slots pc' ls (aI v :: st)) : V ph G p l e R s m args below meth c nL Q h cells slots pc ls (aA t (some i) :: st) := by
  subst hp
  exact fun H locs LS a b d => va_alen C.1 C.2.1 C.2.2.2.2.2.1.1 a.2.1 (pos (t, i)) k (arr_cell hs a hv) (tys_at G hk) (v := v) (by exact hl) hd (kk H locs LS a b d)
theorem v_iast (C : Cx G p s m c args cc nL own) {t i len : Nat} {y : Int32} {x : Int32} (hs : shp t = .inr (0, len)) (hv : lvq ph h (t, i)) (hin : inB y len = true) (hd : decode cc pc = .ok (.iastore, 1)) (hp : pc + 1 = pc') (kk : V ph G p l e R s m args below meth c nL Q (sI h (t, i) y.toNatClampNeg x) cells slots pc' ls st) : V ph G p l e R s m args below meth c nL Q h cells slots pc ls (aI x :: aI y :: aA t (some i) :: st) := by
  subst hp
  intro H locs LS a b d
  have hc := arr_cell hs a hv
  refine W.iast C.1 C.2.1 (a.2.1 _ _ hc) ((C.2.2.2.2.2.1.1.2 0 _ (tys_at G (by decide))).1 len (fun j => .int (gI h (t, i) j))) (fun q => by cases q) (by show ¬ (y < 0 ∨ (arrV _ _ _).slots.size ≤ _); rw [arrV_size]; exact inB_vp hin) rfl rfl hd fun H1 e1 z oq => ?_
  refine kk H1 _ LS (WR_put (one_sI h (t, i) y.toNatClampNeg x) hv a z ?_ oq (fun _ b2 s2 _ => Or.inl rfl)) (b.put z oq ((wl_D G h).2 _ _ hc)) d
  unfold cellE
  rw [show (((t, i) : Ad).1) = t from rfl, hs]
  show H1[loc G (t, i)]? = some (vp_cell _ (len, _))
  rw [e1]
  show some (Cell.setSlot (vp_cell (G.2.2.2 0) (len, .inl (gI h (t, i)))) _ _) = some (vp_cell (G.2.2.2 0) (len, .inl (gI (sI h (t, i) y.toNatClampNeg x) (t, i))))
  rw [vp_cell_i, vp_cell_i, arrV_store]
  congr 2
  funext q
  by_cases hq : q = y.toNatClampNeg
  · subst hq
    simp [updV, gI_sI]
    
  · simp [updV, gI_sI, hq]
theorem v_cast (C : Cx G p s m c args cc nL own) {t i len : Nat} {y : Int32} {x : Int32} (hs : shp t = .inr (1, len)) (hv : lvq ph h (t, i)) (hin : inB y len = true) (hd : decode cc pc = .ok (.castore, 1)) (hp : pc + 1 = pc') (kk : V ph G p l e R s m args below meth c nL Q (sI h (t, i) y.toNatClampNeg (vp_nar .char x)) cells slots pc' ls st) : V ph G p l e R s m args below meth c nL Q h cells slots pc ls (aI x :: aI y :: aA t (some i) :: st) := by
  subst hp
  intro H locs LS a b d
  have hc := arr_cell hs a hv
  refine W.cast C.1 C.2.1 (a.2.1 _ _ hc) ((C.2.2.2.2.2.1.1.2 1 _ (tys_at G (by decide))).1 len (fun j => .int (gI h (t, i) j))) (fun q => by cases q) (by show ¬ (y < 0 ∨ (arrV _ _ _).slots.size ≤ _); rw [arrV_size]; exact inB_vp hin) rfl rfl hd fun H1 e1 z oq => ?_
  refine kk H1 _ LS (WR_put (one_sI h (t, i) y.toNatClampNeg (vp_nar .char x)) hv a z ?_ oq (fun _ b2 s2 _ => Or.inl rfl)) (b.put z oq ((wl_D G h).2 _ _ hc)) d
  unfold cellE
  rw [show (((t, i) : Ad).1) = t from rfl, hs]
  show H1[loc G (t, i)]? = some (vp_cell _ (len, _))
  rw [e1]
  show some (Cell.setSlot (vp_cell (G.2.2.2 1) (len, .inl (gI h (t, i)))) _ _) = some (vp_cell (G.2.2.2 1) (len, .inl (gI (sI h (t, i) y.toNatClampNeg (vp_nar .char x)) (t, i))))
  rw [vp_cell_i, vp_cell_i, arrV_store]
  congr 2
  funext q
  by_cases hq : q = y.toNatClampNeg
  · subst hq
    simp [updV, gI_sI, vp_nar]
    try rfl
  · simp [updV, gI_sI, hq]
theorem v_last (C : Cx G p s m c args cc nL own) {t i len : Nat} {y : Int32} {x : Int64} (hs : shp t = .inr (2, len)) (hv : lvq ph h (t, i)) (hin : inB y len = true) (hd : decode cc pc = .ok (.lastore, 1)) (hp : pc + 1 = pc') (kk : V ph G p l e R s m args below meth c nL Q (sL h (t, i) y.toNatClampNeg x) cells slots pc' ls st) : V ph G p l e R s m args below meth c nL Q h cells slots pc ls (aL x :: aI y :: aA t (some i) :: st) := by
  subst hp
  intro H locs LS a b d
  have hc := arr_cell hs a hv
  refine W.last C.1 C.2.1 (a.2.1 _ _ hc) ((C.2.2.2.2.2.1.1.2 2 _ (tys_at G (by decide))).1 len (fun j => .long (gL h (t, i) j))) (fun q => by cases q) (by show ¬ (y < 0 ∨ (arrV _ _ _).slots.size ≤ _); rw [arrV_size]; exact inB_vp hin) rfl rfl hd fun H1 e1 z oq => ?_
  refine kk H1 _ LS (WR_put (one_sL h (t, i) y.toNatClampNeg x) hv a z ?_ oq (fun _ b2 s2 _ => Or.inl rfl)) (b.put z oq ((wl_D G h).2 _ _ hc)) d
  unfold cellE
  rw [show (((t, i) : Ad).1) = t from rfl, hs]
  show H1[loc G (t, i)]? = some (vp_cell _ (len, _))
  rw [e1]
  show some (Cell.setSlot (vp_cell (G.2.2.2 2) (len, .inr (.inl (gL h (t, i))))) _ _) = some (vp_cell (G.2.2.2 2) (len, .inr (.inl (gL (sL h (t, i) y.toNatClampNeg x) (t, i)))))
  rw [vp_cell_l, vp_cell_l, arrV_store]
  congr 2
  funext q
  by_cases hq : q = y.toNatClampNeg
  · subst hq
    simp [updV, gL_sL]
    
  · simp [updV, gL_sL, hq]
end VR4
def exL : List AV → List (Option AV)
  | [] => []
  | v :: r => if isW v then some v :: none :: exL r else some v :: exL r
def entL (nL : Nat) (vs : List AV) : List (Option AV) := exL vs ++ List.replicate (nL - (exL vs).length) none
theorem exL_args (G : GG) : ∀ (vs : List AV) (k j : Nat) (x : AV), (exL vs)[j]? = some (some x) → (k + j, vv G x) ∈ lv_args k (vs.map (vv G))
  | [], k, j, x, h => by simp [exL] at h
  | v :: r, k, j, x, h => by
    rw [List.map_cons, lv_args]
    rw [exL] at h
    by_cases hw : isW v = true
    · rw [if_pos hw] at h
      rw [vv_cat, if_pos hw, if_pos rfl]
      match j, h with
      | 0, h => simp at h; subst h; exact List.mem_cons_self
      | 1, h => simp at h
      | j + 2, h =>
        have := exL_args G r (k + 2) j x (by simpa using h)
        rw [show k + (j + 2) = k + 2 + j by omega]
        exact List.mem_cons_of_mem _ this
    · rw [if_neg hw] at h
      rw [vv_cat, if_neg hw, if_neg (by decide)]
      match j, h with
      | 0, h => simp at h; subst h; exact List.mem_cons_self
      | j + 1, h =>
        have := exL_args G r (k + 1) j x (by simpa using h)
        rw [show k + (j + 1) = k + 1 + j by omega]
        exact List.mem_cons_of_mem _ this
theorem exL_len (G : GG) : ∀ (vs : List AV), (lg_sl (vs.map (vv G))).length = (exL vs).length
  | [] => rfl
  | v :: r => by
    have ih := exL_len G r
    rw [List.map_cons]
    unfold lg_sl at ih ⊢
    rw [List.flatMap_cons, List.length_append, ih, exL, vv_cat]
    by_cases hw : isW v = true
    · simp [hw]; omega
    · simp [hw]; omega
def PcA (ph : Bool) (G : GG) (vs : List AV) (h : Hp) : Array Value → State → Prop := fun a U => a = (vs.map (vv G)).toArray ∧ G.1 ≤ U.heap.size ∧ WR ph G h U.heap ∧ GF G U U.heap
def QcA (ph : Bool) (G : GG) (rv : Option AV) (h' : Hp) : Array Value → State → Outcome → State → Prop := fun _ st oc t => (oc = .returned (rv.map (vv G)) ∧ WR ph G h' t.heap) ∧ va_F (A_ G) st t
/-- THE CONTRACT of a method: from vs over h it answers rv, and leaves h' -/
def Ctr (l : Launch) (y : MethodName) (b : ByteArray) (nL : Nat) (ret : Option FieldType) (fr lo mc ms : Nat) (ph : Bool) (vs : List AV) (h : Hp) (rv : Option AV) (h' : Hp) : Prop := ∀ G : GG, Met l y (.code y b nL ret :: TT) { frames := fr, cells := mc, slots := ms, locals := lo } (PcA ph G vs h) (QcA ph G rv h') mc ms (A_ G)
theorem Ctr.of {l : Launch} {y : MethodName} {b : ByteArray} {nL : Nat} {ret : Option FieldType} {fr lo mc ms : Nat} {ph : Bool} {vs : List AV} {h : Hp} {rv : Option AV} {h' : Hp} {ls0 : List (Option AV)} (hy : plainName y.cls = true) (hn : (exL vs).length ≤ nL) (hls : entL nL vs = ls0)
    (body : ∀ (G : GG) (p : Program) (e : Env) (s : State) (m : MethodId) (args : Array Value) (below : List Frame) (meth : Method) (c : Code), Cx G p s m c args b nL y.cls → meth.sig.returnType = ret → meth.locks = false → meth.name = y.name → V ph G p l e { frames := fr, cells := mc, slots := ms, locals := lo } s m args below meth c nL (MQ below (QcA ph G rv h') args s mc ms (A_ G)) h 0 0 0 ls0 []) : Ctr l y b nL ret fr lo mc ms ph vs h rv h' := by
  intro G
  refine Met.ofW (cc := b) (maxL := nL) (ret := ret) hy rfl ?_
  intro p e s m args below meth c s₁ B hml hv
  obtain ⟨hargs, hB, hWR, hGF⟩ := hv
  subst hls
  have hts : ∀ w ∈ TT, w.before args s = true := fun w hw => atoms_spec (ws := Cond.code y b nL ret :: TT) B.pre w (List.mem_cons_of_mem _ hw)
  have C : Cx G p s m c args b nL y.cls := ⟨B.exec, B.bytes, hml, findClass_of_methodNamed B.named, hts, hGF, hB⟩
  have hname : meth.name = y.name := (name_of_methodNamed B.named B.method).1
  have key := body G p e s m args below meth c C B.returns B.notSynchronized hname
  rw [hargs]
  have hl := lv_entry (vs.map (vv G)) (n := nL) (by rw [exL_len]; exact hn)
  rw [lg_entry_eq]
  rw [hargs] at key
  refine key s.heap [] _ hWR va_S.rf ⟨hl.1, hl.2.1, fun j x hx => ?_⟩
  refine hl.2.2 (j, vv G x) ?_
  have hx2 : (exL vs)[j]? = some (some x) := by
    rw [entL] at hx
    by_cases hj : j < (exL vs).length
    · rwa [List.getElem?_append_left hj] at hx
    · rw [List.getElem?_append_right (by omega)] at hx
      rw [List.getElem?_replicate] at hx
      split at hx <;> cases hx
  have := exL_args G vs 0 j x hx2
  rwa [Nat.zero_add] at this

section VR5
variable {ph : Bool} {G : GG} {p : Program} {l : Launch} {e : Env} {R : Room} {s : State} {m : MethodId} {args : Array Value} {below : List Frame} {meth : Method} {c : Code} {nL : Nat} {h : Hp} {cells slots pc pc' : Nat} {ls : List (Option AV)} {st : List AV} {cc : ByteArray} {own : String}
theorem v_reti (C : Cx G p s m c args cc nL own) {x : Int32} (hr : meth.sig.returnType = some .int) (hlk : meth.locks = false) (hd : decode cc pc = .ok (.ireturn, 1)) : V ph G p l e R s m args below meth c nL (MQ below (QcA ph G (some (aI x)) h) args s cells slots (A_ G)) h cells slots pc ls [aI x] := by
  intro H locs LS a b d
  have hlocks := hlk
  exact W.iret C.1 C.2.1 hr (fun t ht _ => ⟨⟨rfl, by rw [ht]; exact a⟩, b.F ht⟩) b.2.2 hd
theorem v_retz (C : Cx G p s m c args cc nL own) {x : Int32} (hr : meth.sig.returnType = some .boolean) (hlk : meth.locks = false) (hz : x = 0 ∨ x = 1) (hd : decode cc pc = .ok (.ireturn, 1)) : V ph G p l e R s m args below meth c nL (MQ below (QcA ph G (some (aI x)) h) args s cells slots (A_ G)) h cells slots pc ls [aI x] := by
  intro H locs LS a b d
  have hlocks := hlk
  exact W.zret C.1 C.2.1 hr (by rcases hz with rfl | rfl <;> decide) (fun t ht _ => ⟨⟨rfl, by rw [ht]; exact a⟩, b.F ht⟩) b.2.2 hd
theorem v_retc (C : Cx G p s m c args cc nL own) {x : Int32} (hr : meth.sig.returnType = some .char) (hlk : meth.locks = false) (hz : x.toUInt32.toUInt16.toUInt32.toInt32 = x) (hd : decode cc pc = .ok (.ireturn, 1)) : V ph G p l e R s m args below meth c nL (MQ below (QcA ph G (some (aI x)) h) args s cells slots (A_ G)) h cells slots pc ls [aI x] := by
  intro H locs LS a b d
  have hlocks := hlk
  exact W.zret C.1 C.2.1 hr (by show Value.int _ = _; rw [hz]) (fun t ht _ => ⟨⟨rfl, by rw [ht]; exact a⟩, b.F ht⟩) b.2.2 hd
theorem v_retl (C : Cx G p s m c args cc nL own) {x : Int64} (hr : meth.sig.returnType = some .long) (hlk : meth.locks = false) (hd : decode cc pc = .ok (.lreturn, 1)) : V ph G p l e R s m args below meth c nL (MQ below (QcA ph G (some (aL x)) h) args s cells slots (A_ G)) h cells slots pc ls [aL x] := by
  intro H locs LS a b d
  have hlocks := hlk
  exact W.lret C.1 C.2.1 hr (fun t ht _ => ⟨⟨rfl, by rw [ht]; exact a⟩, b.F ht⟩) b.2.2 hd
theorem v_reta (C : Cx G p s m c args cc nL own) {t : Nat} {x : Option Nat} {rt : FieldType} (hr : meth.sig.returnType = some rt) (hrt : (∃ n, rt = .object n) ∨ ∃ t, rt = .array t) (hlk : meth.locks = false) (hd : decode cc pc = .ok (.areturn, 1)) : V ph G p l e R s m args below meth c nL (MQ below (QcA ph G (some (aA t x)) h) args s cells slots (A_ G)) h cells slots pc ls [aA t x] := by
  intro H locs LS a b d
  have hlocks := hlk
  exact W.aret C.1 C.2.1 hr hrt (by cases x <;> simp [vv, rO, va_rf]) (fun t ht _ => ⟨⟨rfl, by rw [ht]; exact a⟩, b.F ht⟩) b.2.2 hd
theorem v_retv (C : Cx G p s m c args cc nL own) (hr : meth.sig.returnType = none) (hlk : meth.locks = false) (hd : decode cc pc = .ok (.return_, 1)) : V ph G p l e R s m args below meth c nL (MQ below (QcA ph G (none) h) args s cells slots (A_ G)) h cells slots pc ls [] := by
  intro H locs LS a b d
  have hlocks := hlk
  exact W.vret C.1 C.2.1 hr (fun t ht _ => ⟨⟨rfl, by rw [ht]; exact a⟩, b.F ht⟩) b.2.2 hd
end VR5
