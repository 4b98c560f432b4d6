section VK
variable {ph : Bool} {G : GG} {p : Program} {l : Launch} {e : Env} {R : Room} {s : State} {m : MethodId} {args : Array Value} {below : List Frame} {meth : Method} {c : Code} {nL : Nat} {Q : State → Prop} {h h' : Hp} {cells slots pc pc' : Nat} {ls : List (Option AV)} {st rest : List AV} {cc : ByteArray} {own : String} {rv : Option AV} {mc ms : Nat}
theorem v_gsW (C : Cx G p s m c args cc nL own) {idx : Nat} {k : Nat} (hk : k < 4) (hw : Cond.fieldLink own idx "RootedFerry$Way" (wayN.getD k "") "LRootedFerry$Way;" ∈ TT) (hd : decode cc pc = .ok (.getstatic idx, 3)) (hp : pc + 3 = pc') (kk : V ph G p l e R s m args below meth c nL Q h cells slots pc' ls (aA 102 (some k) :: st)) : V ph G p l e R s m args below meth c nL Q h cells slots pc ls st := by
  subst hp
  intro H locs LS a b dd
  have hz := C.2.2.2.2.2.1.2.2.1
  exact va_gets C.1 C.2.1 (hz.1 k hk) b C.2.2.2.1 (C.2.2.2.2.1 _ hw) (fun x hx => hx) hd (kk H locs LS a b dd)
theorem v_gsC (C : Cx G p s m c args cc nL own) {idx : Nat}  (hw : Cond.fieldLink own idx "RootedFerry" "COMMANDS" "[LRootedFerry$Command;" ∈ TT) (hd : decode cc pc = .ok (.getstatic idx, 3)) (hp : pc + 3 = pc') (kk : V ph G p l e R s m args below meth c nL Q h cells slots pc' ls (aA 103 (some 0) :: st)) : V ph G p l e R s m args below meth c nL Q h cells slots pc ls st := by
  subst hp
  intro H locs LS a b dd
  have hz := C.2.2.2.2.2.1.2.2.1
  exact va_gets C.1 C.2.1 (hz.2.1) b C.2.2.2.1 (C.2.2.2.2.1 _ hw) (fun x hx => hx) hd (kk H locs LS a b dd)
theorem v_gsS (C : Cx G p s m c args cc nL own) {idx : Nat}  (hw : Cond.fieldLink own idx "RootedFerry$1" "$SwitchMap$RootedFerry$Command" "[I" ∈ TT) (hd : decode cc pc = .ok (.getstatic idx, 3)) (hp : pc + 3 = pc') (kk : V ph G p l e R s m args below meth c nL Q h cells slots pc' ls (aA 104 (some 0) :: st)) : V ph G p l e R s m args below meth c nL Q h cells slots pc ls st := by
  subst hp
  intro H locs LS a b dd
  have hz := C.2.2.2.2.2.1.2.2.1
  exact va_gets C.1 C.2.1 (hz.2.2.2.1) b C.2.2.2.1 (C.2.2.2.2.1 _ hw) (fun x hx => hx) hd (kk H locs LS a b dd)
theorem v_gsK (C : Cx G p s m c args cc nL own) {idx : Nat}  (hw : Cond.fieldLink own idx "java/lang/String" "COMPACT_STRINGS" "Z" ∈ TT) (hd : decode cc pc = .ok (.getstatic idx, 3)) (hp : pc + 3 = pc') (kk : V ph G p l e R s m args below meth c nL Q h cells slots pc' ls (aI 1 :: st)) : V ph G p l e R s m args below meth c nL Q h cells slots pc ls st := by
  subst hp
  intro H locs LS a b dd
  have hz := C.2.2.2.2.2.1.2.2.1
  exact va_gets C.1 C.2.1 (hz.2.2.2.2.2.1) b C.2.2.2.1 (C.2.2.2.2.1 _ hw) (fun x hx => hx) hd (kk H locs LS a b dd)
theorem v_gsE (C : Cx G p s m c args cc nL own) {idx : Nat}  (hw : Cond.fieldLink own idx "java/util/ArrayList" "DEFAULTCAPACITY_EMPTY_ELEMENTDATA" "[Ljava/lang/Object;" ∈ TT) (hd : decode cc pc = .ok (.getstatic idx, 3)) (hp : pc + 3 = pc') (kk : V ph G p l e R s m args below meth c nL Q h cells slots pc' ls (aA 16 (some 0) :: st)) : V ph G p l e R s m args below meth c nL Q h cells slots pc ls st := by
  subst hp
  intro H locs LS a b dd
  have hz := C.2.2.2.2.2.1.2.2.1
  exact va_gets C.1 C.2.1 (hz.2.2.2.2.2.2.2.1) b C.2.2.2.1 (C.2.2.2.2.1 _ hw) (fun x hx => hx) hd (kk H locs LS a b dd)
theorem v_gsF (C : Cx G p s m c args cc nL own) {idx : Nat} (hw : Cond.fieldLink own idx "jdk/internal/util/Preconditions" "SIOOBE_FORMATTER" "Ljava/util/function/BiFunction;" ∈ TT) (hd : decode cc pc = .ok (.getstatic idx, 3)) (hp : pc + 3 = pc') (kk : ∀ o : Option Nat, V ph G p l e R s m args below meth c nL Q h cells slots pc' ls (aA 107 o :: st)) : V ph G p l e R s m args below meth c nL Q h cells slots pc ls st := by
  subst hp
  intro H locs LS a b dd
  have hz := C.2.2.2.2.2.1.2.2.1.2.2.2.2.2.2.1
  rcases hz with hz | hz
  · exact va_gets C.1 C.2.1 hz b C.2.2.2.1 (C.2.2.2.2.1 _ hw) (fun x hx => hx) hd (kk none H locs LS a b dd)
  · exact va_gets C.1 C.2.1 hz b C.2.2.2.1 (C.2.2.2.2.1 _ hw) (fun x hx => hx) hd (kk (some 0) H locs LS a b dd)
theorem v_alenC (C : Cx G p s m c args cc nL own)  (hd : decode cc pc = .ok (.arraylength, 1)) (hp : pc + 1 = pc') (kk : V ph G p l e R s m args below meth c nL Q h cells slots pc' ls (aI (22 : Int32) :: st)) : V ph G p l e R s m args below meth c nL Q h cells slots pc ls (aA 103 (some 0) :: st) := by
  subst hp
  intro H locs LS a b dd
  have hz := C.2.2.2.2.2.1.2.2.1
  have hy := C.2.2.2.2.2.1.2.2.2.1
  exact va_tlen C.1 C.2.1 (hz.2.2.1) b (v := (22 : Int32)) (by first | rfl | decide) hd (kk H locs LS a b dd)
theorem v_alenB (C : Cx G p s m c args cc nL own) {k : Nat} (hk : k < 22) (hd : decode cc pc = .ok (.arraylength, 1)) (hp : pc + 1 = pc') (kk : V ph G p l e R s m args below meth c nL Q h cells slots pc' ls (aI (nI (sLen k)) :: st)) : V ph G p l e R s m args below meth c nL Q h cells slots pc ls (aA 105 (some k) :: st) := by
  subst hp
  intro H locs LS a b dd
  have hz := C.2.2.2.2.2.1.2.2.1
  have hy := C.2.2.2.2.2.1.2.2.2.1
  exact va_tlen C.1 C.2.1 ((hy k hk).2.2.2.2.2.2.2.2.2) b (v := (nI (sLen k))) (by first | rfl | decide) hd (kk H locs LS a b dd)
theorem v_alenE (C : Cx G p s m c args cc nL own)  (hd : decode cc pc = .ok (.arraylength, 1)) (hp : pc + 1 = pc') (kk : V ph G p l e R s m args below meth c nL Q h cells slots pc' ls (aI (0 : Int32) :: st)) : V ph G p l e R s m args below meth c nL Q h cells slots pc ls (aA 16 (some 0) :: st) := by
  subst hp
  intro H locs LS a b dd
  have hz := C.2.2.2.2.2.1.2.2.1
  have hy := C.2.2.2.2.2.1.2.2.2.1
  exact va_tlen C.1 C.2.1 (hz.2.2.2.2.2.2.2.2) b (v := (0 : Int32)) (by first | rfl | decide) hd (kk H locs LS a b dd)
theorem v_ialdS (C : Cx G p s m c args cc nL own) {x : Int32} (hin : inB x 22 = true) (hd : decode cc pc = .ok (.iaload, 1)) (hp : pc + 1 = pc') (kk : V ph G p l e R s m args below meth c nL Q h cells slots pc' ls (aI (swm.getD x.toNatClampNeg 0) :: st)) : V ph G p l e R s m args below meth c nL Q h cells slots pc ls (aI x :: aA 104 (some 0) :: st) := by
  subst hp
  intro H locs LS a b dd
  exact va_ti C.1 C.2.1 C.2.2.2.2.2.1.2.2.1.2.2.2.2.1 b (inB_vp hin) rfl hd (kk H locs LS a b dd)
theorem v_baldB (C : Cx G p s m c args cc nL own) {x : Int32} {k : Nat} (hk : k < 22) (hin : inB x (sLen k) = true) (hd : decode cc pc = .ok (.baload, 1)) (hp : pc + 1 = pc') (kk : V ph G p l e R s m args below meth c nL Q h cells slots pc' ls (aI (sCh k x.toNatClampNeg) :: st)) : V ph G p l e R s m args below meth c nL Q h cells slots pc ls (aI x :: aA 105 (some k) :: st) := by
  subst hp
  intro H locs LS a b dd
  exact va_tb C.1 C.2.1 (C.2.2.2.2.2.1.2.2.2.1 k hk).2.2.2.2.2.2.2.2.2 b (inB_vp hin) rfl hd (kk H locs LS a b dd)
theorem v_aaldC (C : Cx G p s m c args cc nL own) {x : Int32} (hin : inB x 22 = true) (hd : decode cc pc = .ok (.aaload, 1)) (hp : pc + 1 = pc') (kk : V ph G p l e R s m args below meth c nL Q h cells slots pc' ls (aA 100 (some x.toNatClampNeg) :: st)) : V ph G p l e R s m args below meth c nL Q h cells slots pc ls (aI x :: aA 103 (some 0) :: st) := by
  subst hp
  intro H locs LS a b dd
  obtain ⟨cell, h1, h2, h3, h4, h5, h6, h7⟩ := C.2.2.2.2.2.1.2.2.1.2.2.1
  have hlt : x.toNatClampNeg < 22 := inB_lt hin
  have hin' : ¬ (x < 0 ∨ cell.slots.size ≤ x.toNatClampNeg) := by
    intro q
    rcases q with q | q
    · exact inB_vp hin (Or.inl q)
    · omega
  exact W.aald (v := .ref (loc G (100, x.toNatClampNeg))) C.1 C.2.1 (by rw [b.2.1 _ (Array.getElem?_eq_some_iff.mp h1).1 h7]; exact h1) h2 rfl h3 hin' (h6 _ hlt) rfl rfl hd (kk H locs LS a b dd)
theorem v_kLet (C : Cx G p s m c args cc nL own) {idx k : Nat} (hk : k < 22) (hw : Cond.fieldLink own idx "RootedFerry$Command" "letters" "Ljava/lang/String;" ∈ TT) (hd : decode cc pc = .ok (.getfield idx, 3)) (hp : pc + 3 = pc') (kk : V ph G p l e R s m args below meth c nL Q h cells slots pc' ls (aA 101 (some k) :: st)) : V ph G p l e R s m args below meth c nL Q h cells slots pc ls (aA 100 (some k) :: st) := by
  subst hp
  intro H locs LS a b dd
  exact vk_getf C.1 C.2.1 ((C.2.2.2.2.2.1.2.2.2.1 k hk).2.1) b C.2.2.2.1 (C.2.2.2.2.1 _ hw) (fun x hx => hx) hd (kk H locs LS a b dd)
theorem v_kArg (C : Cx G p s m c args cc nL own) {idx k : Nat} (hk : k < 22) (hw : Cond.fieldLink own idx "RootedFerry$Command" "argument" "I" ∈ TT) (hd : decode cc pc = .ok (.getfield idx, 3)) (hp : pc + 3 = pc') (kk : V ph G p l e R s m args below meth c nL Q h cells slots pc' ls (aI (cArg.getD k 0) :: st)) : V ph G p l e R s m args below meth c nL Q h cells slots pc ls (aA 100 (some k) :: st) := by
  subst hp
  intro H locs LS a b dd
  exact vk_getf C.1 C.2.1 ((C.2.2.2.2.2.1.2.2.2.1 k hk).2.2.1) b C.2.2.2.1 (C.2.2.2.2.1 _ hw) (fun x hx => hx) hd (kk H locs LS a b dd)
theorem v_kWL (C : Cx G p s m c args cc nL own) {idx k : Nat} (hk : k < 22) (hw : Cond.fieldLink own idx "RootedFerry$Command" "withoutLogin" "Z" ∈ TT) (hd : decode cc pc = .ok (.getfield idx, 3)) (hp : pc + 3 = pc') (kk : V ph G p l e R s m args below meth c nL Q h cells slots pc' ls (aI (cWL.getD k 0) :: st)) : V ph G p l e R s m args below meth c nL Q h cells slots pc ls (aA 100 (some k) :: st) := by
  subst hp
  intro H locs LS a b dd
  exact vk_getf C.1 C.2.1 ((C.2.2.2.2.2.1.2.2.2.1 k hk).2.2.2.1) b C.2.2.2.1 (C.2.2.2.2.1 _ hw) (fun x hx => hx) hd (kk H locs LS a b dd)
theorem v_kDT (C : Cx G p s m c args cc nL own) {idx k : Nat} (hk : k < 22) (hw : Cond.fieldLink own idx "RootedFerry$Command" "duringTransfer" "Z" ∈ TT) (hd : decode cc pc = .ok (.getfield idx, 3)) (hp : pc + 3 = pc') (kk : V ph G p l e R s m args below meth c nL Q h cells slots pc' ls (aI (cDT.getD k 0) :: st)) : V ph G p l e R s m args below meth c nL Q h cells slots pc ls (aA 100 (some k) :: st) := by
  subst hp
  intro H locs LS a b dd
  exact vk_getf C.1 C.2.1 ((C.2.2.2.2.2.1.2.2.2.1 k hk).2.2.2.2.1) b C.2.2.2.1 (C.2.2.2.2.1 _ hw) (fun x hx => hx) hd (kk H locs LS a b dd)
theorem v_kOrd (C : Cx G p s m c args cc nL own) {idx k : Nat} (hk : k < 22) (hw : Cond.fieldLink own idx "java/lang/Enum" "ordinal" "I" ∈ TT) (hd : decode cc pc = .ok (.getfield idx, 3)) (hp : pc + 3 = pc') (kk : V ph G p l e R s m args below meth c nL Q h cells slots pc' ls (aI (nI k) :: st)) : V ph G p l e R s m args below meth c nL Q h cells slots pc ls (aA 100 (some k) :: st) := by
  subst hp
  intro H locs LS a b dd
  exact vk_getf C.1 C.2.1 ((C.2.2.2.2.2.1.2.2.2.1 k hk).2.2.2.2.2.1) b C.2.2.2.1 (C.2.2.2.2.1 _ hw) (fun x hx => hx) hd (kk H locs LS a b dd)
theorem v_kVal (C : Cx G p s m c args cc nL own) {idx k : Nat} (hk : k < 22) (hw : Cond.fieldLink own idx "java/lang/String" "value" "[B" ∈ TT) (hd : decode cc pc = .ok (.getfield idx, 3)) (hp : pc + 3 = pc') (kk : V ph G p l e R s m args below meth c nL Q h cells slots pc' ls (aA 105 (some k) :: st)) : V ph G p l e R s m args below meth c nL Q h cells slots pc ls (aA 101 (some k) :: st) := by
  subst hp
  intro H locs LS a b dd
  exact vk_getf C.1 C.2.1 ((C.2.2.2.2.2.1.2.2.2.1 k hk).2.2.2.2.2.2.2.1) b C.2.2.2.1 (C.2.2.2.2.1 _ hw) (fun x hx => hx) hd (kk H locs LS a b dd)
theorem v_kCod (C : Cx G p s m c args cc nL own) {idx k : Nat} (hk : k < 22) (hw : Cond.fieldLink own idx "java/lang/String" "coder" "B" ∈ TT) (hd : decode cc pc = .ok (.getfield idx, 3)) (hp : pc + 3 = pc') (kk : V ph G p l e R s m args below meth c nL Q h cells slots pc' ls (aI 0 :: st)) : V ph G p l e R s m args below meth c nL Q h cells slots pc ls (aA 101 (some k) :: st) := by
  subst hp
  intro H locs LS a b dd
  exact vk_getf C.1 C.2.1 ((C.2.2.2.2.2.1.2.2.2.1 k hk).2.2.2.2.2.2.2.2.1) b C.2.2.2.1 (C.2.2.2.2.1 _ hw) (fun x hx => hx) hd (kk H locs LS a b dd)
/-- a method of one of the commands' letters -/
theorem v_callKs (C : Cx G p s m c args cc nL own) {y : MethodName} {b : ByteArray} {nLy n fr lo idx i : Nat} {ret : Option FieldType} {As : List AV} (hC : Ctr l y b nLy ret fr lo mc ms ph (aA 101 (some i) :: As) h rv h') (hm : MVk own idx y b nLy ret n) (hk : i < 22) (hy : y.cls = "java/lang/String")
    (hd : decode cc pc = .ok (.invokevirtual idx, 3)) (hp : pc + 3 = pc') (hn : As.length = n) (hst : As.reverse ++ aA 101 (some i) :: rest = st) (hR : fr + 1 ≤ R.frames ∧ 8 + (nLy + 11) + lo ≤ R.locals) (hW : (rest.map fun x => if isW x then 2 else 1).sum ≤ 8) (hcs : cells + mc ≤ R.cells ∧ slots + ms ≤ R.slots)
    (kk : V ph G p l e R s m args below meth c nL Q h' (cells + mc) (slots + ms) pc' ls (rv.toList ++ rest)) : V ph G p l e R s m args below meth c nL Q h cells slots pc ls st := by
  refine v_callVg C hC hm (fun H locs a hS => ?_) hd hp hn hst hR hW hcs kk
  obtain ⟨cell, h1, h2, h3, -⟩ := ((C.2.2.2.2.2.1.2.2.2.1 i hk).2.2.2.2.2.2.1).kept hS.2.1
  exact ⟨cell, h1, h2, by rw [hy]; exact h3⟩
def yOrd : MethodName := ⟨"RootedFerry$Command", "ordinal", "()I"⟩
theorem c_ord (l : Launch) (k : Nat) (h : Hp) (hk : k < 22) : Ctr l yJx29ce0_ordinal_8abf5 cJx29ce0_ordinal_8abf5 1 (some .int) 0 0 0 0 true [aA 100 (some k)] h (some (aI (nI k))) h := by
  refine Ctr.of (ls0 := [some (aA 100 (some k))]) (by decide +kernel) (Nat.le_of_ble_eq_true rfl) rfl ?_
  intro G p e s m args below meth c C hr hlk hnm
  refine v_aload_n C (pc' := 1) dJx29ce0_ordinal_8abf5_0 rfl rfl rfl ?_
  refine v_kOrd C (pc' := 4) hk (TT_of (i := 1257) (by decide +kernel) (by decide +kernel)) dJx29ce0_ordinal_8abf5_1 rfl ?_
  exact v_reti C hr hlk dJx29ce0_ordinal_8abf5_4
theorem v_ord (C : Cx G p s m c args cc nL RX12) {k : Nat} (hk : k < 22) (hph : ph = true) (hd : decode cc pc = .ok (.invokevirtual 256, 3)) (hp : pc + 3 = pc') (hR : 0 + 1 ≤ R.frames ∧ 8 + (1 + 11) + 0 ≤ R.locals) (hW : (rest.map fun x => if isW x then 2 else 1).sum ≤ 8) (hcs : cells + 0 ≤ R.cells ∧ slots + 0 ≤ R.slots) (kk : V ph G p l e R s m args below meth c nL Q h cells slots pc' ls (aI (nI k) :: rest)) : V ph G p l e R s m args below meth c nL Q h cells slots pc ls (aA 100 (some k) :: rest) := by
  subst hp
  subst hph
  intro H locs LS a hS d
  have hwU : GoodIn TT (va_wsU RX12 256 "RootedFerry$Command" "java/lang/Enum" yOrd yJx29ce0_ordinal_8abf5 (.code yJx29ce0_ordinal_8abf5 cJx29ce0_ordinal_8abf5 1 (some .int) :: TT)) := by
    intro w hw
    have hm : w ∈ TT := by
      rcases List.mem_append.mp hw with z | z
      · simp only [List.mem_cons, List.not_mem_nil, or_false] at z
        rcases z with rfl | rfl | rfl | rfl | rfl
        · exact TT_of (i := 668) (by decide +kernel) (by decide +kernel)
        · exact TT_of (i := 669) (by decide +kernel) (by decide +kernel)
        · exact TT_of (i := 671) (by decide +kernel) (by decide +kernel)
        · exact TT_of (i := 672) (by decide +kernel) (by decide +kernel)
        · exact TT_of (i := 82) (by decide +kernel) (by decide +kernel)
      · rcases List.mem_cons.mp z with q | q
        · rw [q]; exact TT_of (i := 673) (by decide +kernel) (by decide +kernel)
        · exact q
    exact ⟨hm, good_of_word (TT_good w hm)⟩
  have hrecv : ∃ cell : Cell, H[loc G (100, k)]? = some cell ∧ cell.vm.isStatics = false ∧ s.vm.findClass "RootedFerry$Command" = some cell.cls := by
    obtain ⟨cell, h1, h2, h3, -⟩ := ((C.2.2.2.2.2.1.2.2.2.1 k hk).1).kept hS.2.1
    exact ⟨cell, h1, h2, h3⟩
  have hr := va_runU (p := p) (e := e) (below := below) (meth := meth) (locs := locs) (cells := cells) (slots := slots) (As := []) (rest := rest.map (vv G)) (g := F0 m pc LS ((aA 100 (some k) :: rest).map (vv G))) ⟨C.1, C.2.1, C.2.2.1, C.2.2.2.1, C.2.2.2.2.1⟩ (c_ord l k h hk G) (va_cwU 0 C.2.2.2.2.1 hwU rfl rfl rfl rfl ⟨by decide, by decide, by decide +kernel⟩ hR) (b := loc G (100, k)) (H := H) ⟨pc_blind _ _, hrecv, fun U hU hW => pc_ok C a hS [aA 100 (some k)] hU hW⟩ rfl rfl d.1 rfl (lv_room (by rw [rest_cat]; exact hW)) hd hcs
  exact v_after hr hS rfl d kk
end VK
