/-! what is read off the launch: constants, their fields, static arrays, the letters of the commands -/
def cmdN : List String := ["USER", "PASS", "QUIT", "NOOP", "PWD", "CWD", "CDUP", "MKD", "RMD", "DELE", "SIZE", "RNFR", "RNTO", "TYPE", "REST", "PASV", "PORT", "ABOR", "RETR", "STOR", "APPE", "NLST"]
def cArg : List Int32 := [1, 1, 0, 0, 0, 2, 0, 2, 2, 2, 2, 2, 2, 6, 4, 0, 5, 0, 2, 2, 2, 3]
def cWL : List Int32 := [1, 1, 1, 1, 0, 0, 0, 0, 0, 0, 0, 0, 0, 0, 0, 0, 0, 0, 0, 0, 0, 0]
def cDT : List Int32 := [0, 0, 1, 1, 0, 0, 0, 0, 0, 0, 0, 0, 0, 0, 0, 0, 0, 1, 0, 0, 0, 0]
def swm : List Int32 := [1, 2, 3, 0, 4, 11, 5, 12, 13, 14, 15, 16, 17, 6, 7, 8, 9, 10, 18, 19, 20, 0]
def sTx : List (List Int32) := [[85, 83, 69, 82], [80, 65, 83, 83], [81, 85, 73, 84], [78, 79, 79, 80], [80, 87, 68], [67, 87, 68], [67, 68, 85, 80], [77, 75, 68], [82, 77, 68], [68, 69, 76, 69], [83, 73, 90, 69], [82, 78, 70, 82], [82, 78, 84, 79], [84, 89, 80, 69], [82, 69, 83, 84], [80, 65, 83, 86], [80, 79, 82, 84], [65, 66, 79, 82], [82, 69, 84, 82], [83, 84, 79, 82], [65, 80, 80, 69], [78, 76, 83, 84]]
def sLen (k : Nat) : Nat := (sTx.getD k []).length
def sCh (k j : Nat) : Int32 := (sTx.getD k []).getD j 0
def wayN : List String := ["NONE", "WAITING", "JOINED", "CALLING"]
def KF1 (G : GG) (U : State) (H : Heap) : Prop := (∀ k : Nat, k < 4 → va_Z "RootedFerry$Way" (wayN.getD k "") "LRootedFerry$Way;" (.ref (loc G (102, k))) (A_ G) U H) ∧
  va_Z "RootedFerry" "COMMANDS" "[LRootedFerry$Command;" (.ref (loc G (103, 0))) (A_ G) U H ∧
  va_T (.object "RootedFerry$Command") (loc G (103, 0)) 22 (fun k => .ref (loc G (100, k))) (A_ G) U H ∧
  va_Z "RootedFerry$1" "$SwitchMap$RootedFerry$Command" "[I" (.ref (loc G (104, 0))) (A_ G) U H ∧
  va_T .int (loc G (104, 0)) 22 (fun k => .int (swm.getD k 0)) (A_ G) U H ∧
  va_Z "java/lang/String" "COMPACT_STRINGS" "Z" (.int 1) (A_ G) U H ∧
  (va_Z "jdk/internal/util/Preconditions" "SIOOBE_FORMATTER" "Ljava/util/function/BiFunction;" .null (A_ G) U H ∨ va_Z "jdk/internal/util/Preconditions" "SIOOBE_FORMATTER" "Ljava/util/function/BiFunction;" (.ref (loc G (107, 0))) (A_ G) U H) ∧
  va_Z "java/util/ArrayList" "DEFAULTCAPACITY_EMPTY_ELEMENTDATA" "[Ljava/lang/Object;" (.ref (loc G (16, 0))) (A_ G) U H ∧
  va_T (.object "java/lang/Object") (loc G (16, 0)) 0 (fun _ => .null) (A_ G) U H
def KF2 (G : GG) (U : State) (H : Heap) (k : Nat) : Prop := va_O "RootedFerry$Command" (loc G (100, k)) (A_ G) U H ∧
  va_OF "RootedFerry$Command" "letters" "Ljava/lang/String;" (.ref (loc G (101, k))) (loc G (100, k)) (A_ G) U H ∧
  va_OF "RootedFerry$Command" "argument" "I" (.int (cArg.getD k 0)) (loc G (100, k)) (A_ G) U H ∧
  va_OF "RootedFerry$Command" "withoutLogin" "Z" (.int (cWL.getD k 0)) (loc G (100, k)) (A_ G) U H ∧
  va_OF "RootedFerry$Command" "duringTransfer" "Z" (.int (cDT.getD k 0)) (loc G (100, k)) (A_ G) U H ∧
  va_OF "java/lang/Enum" "ordinal" "I" (.int (nI k)) (loc G (100, k)) (A_ G) U H ∧
  va_O "java/lang/String" (loc G (101, k)) (A_ G) U H ∧
  va_OF "java/lang/String" "value" "[B" (.ref (loc G (105, k))) (loc G (101, k)) (A_ G) U H ∧
  va_OF "java/lang/String" "coder" "B" (.int 0) (loc G (101, k)) (A_ G) U H ∧
  va_T .byte (loc G (105, k)) (sLen k) (fun j => .int (sCh k j)) (A_ G) U H
def NF (U : State) : Prop := va_AO "RootedFerry$Node" U ∧ va_AO "java/lang/Object" U ∧ va_Nw (.castable "RootedFerry$Account" "java/lang/Object") U ∧ va_Nw (.methodLinkNest "RootedFerry" 9 ⟨"RootedFerry$Line", "<init>", "()V"⟩ "RootedFerry") U ∧ va_Nw (.methodLinkNest "RootedFerry$Tree" 15 ⟨"RootedFerry$Node", "<init>", "()V"⟩ "RootedFerry") U ∧ va_Nw (.methodLinkNest "RootedFerry" 32 ⟨"RootedFerry$Path", "<init>", "()V"⟩ "RootedFerry") U ∧ va_Nw (.methodLinkNest "RootedFerry" 39 ⟨"RootedFerry$Message", "<init>", "()V"⟩ "RootedFerry") U ∧ va_Nw (.methodLinkNest "RootedFerry" 46 ⟨"RootedFerry$Cargo", "<init>", "()V"⟩ "RootedFerry") U ∧ va_Nw (.methodLinkNest "RootedFerry" 53 ⟨"RootedFerry$Memory", "<init>", "()V"⟩ "RootedFerry") U
theorem NF.warm {u U : State} (hW : u.WarmedH U.vm) (h : NF u) : NF U := ⟨h.1.moved hW.alike, h.2.1.moved hW.alike, va_Nw.warmC hW h.2.2.1, va_Nw.warmM hW h.2.2.2.1, va_Nw.warmM hW h.2.2.2.2.1, va_Nw.warmM hW h.2.2.2.2.2.1, va_Nw.warmM hW h.2.2.2.2.2.2.1, va_Nw.warmM hW h.2.2.2.2.2.2.2.1, va_Nw.warmM hW h.2.2.2.2.2.2.2.2⟩
theorem NF.same {u U : State} (e : u.vm = U.vm) (h : NF u) : NF U := ⟨h.1.moved (by rw [e]; exact Vm.Alike.refl _), h.2.1.moved (by rw [e]; exact Vm.Alike.refl _), va_Nw.same rfl e h.2.2.1, va_Nw.same rfl e h.2.2.2.1, va_Nw.same rfl e h.2.2.2.2.1, va_Nw.same rfl e h.2.2.2.2.2.1, va_Nw.same rfl e h.2.2.2.2.2.2.1, va_Nw.same rfl e h.2.2.2.2.2.2.2.1, va_Nw.same rfl e h.2.2.2.2.2.2.2.2⟩
def GF (G : GG) (U : State) (H : Heap) : Prop := va_K G.2.2.1 vwCl (tysL G) U ∧ (∀ i j : Nat, i < 4 → j < 4 → loc G (102, i) = loc G (102, j) → i = j) ∧ KF1 G U H ∧ (∀ k : Nat, k < 22 → KF2 G U H k) ∧ NF U
theorem GF.to' {G : GG} {u U : State} {H H1 : Heap} (h : GF G u H) (hvm : u.vm.Alike U.vm) (hN : NF U) (hq : ∀ a : Nat, a < H.size → ¬ A_ G a → H1[a]? = H[a]?) : GF G U H1 := by
  obtain ⟨h1, h2, ⟨a1, a2, a3, a4, a5, a6, a7, a8, a9⟩, h4, -⟩ := h
  refine ⟨h1.moved hvm, h2, ⟨fun k hk => ((a1 k hk).moved hvm).kept hq, (a2.moved hvm).kept hq, (a3.moved hvm).kept hq, (a4.moved hvm).kept hq, (a5.moved hvm).kept hq, (a6.moved hvm).kept hq, a7.imp (fun z => (z.moved hvm).kept hq) (fun z => (z.moved hvm).kept hq), (a8.moved hvm).kept hq, (a9.moved hvm).kept hq⟩, fun k hk => ?_, hN⟩
  obtain ⟨b1, b2, b3, b4, b5, b6, b7, b8, b9, b10⟩ := h4 k hk
  exact ⟨(b1.moved hvm).kept hq, (b2.moved hvm).kept hq, (b3.moved hvm).kept hq, (b4.moved hvm).kept hq, (b5.moved hvm).kept hq, (b6.moved hvm).kept hq, (b7.moved hvm).kept hq, (b8.moved hvm).kept hq, (b9.moved hvm).kept hq, (b10.moved hvm).kept hq⟩
theorem GF.to {G : GG} {u U : State} {H H1 : Heap} (h : GF G u H) (hW : u.WarmedH U.vm) (hq : ∀ a : Nat, a < H.size → ¬ A_ G a → H1[a]? = H[a]?) : GF G U H1 := h.to' hW.alike (h.2.2.2.2.warm hW) hq
theorem GF.same {G : GG} {u U : State} {H : Heap} (h : GF G u H) (e : u.vm = U.vm) : GF G U H := h.to' (by rw [e]; exact Vm.Alike.refl _) (h.2.2.2.2.same e) (fun _ _ _ => rfl)
def TT : List Cond := lw_tbl.filter goodWord
theorem TT_good : ∀ w ∈ TT, goodWord w = true := fun w h => (List.mem_filter.mp h).2
theorem TT_of {w : Cond} {i : Nat} (hi : lw_tbl[i]? = some w) (hg : goodWord w = true) : w ∈ TT := List.mem_filter.mpr ⟨List.mem_of_getElem? hi, hg⟩
/-- the locals -/
def lvh (G : GG) (LS : Array Slot) (nL : Nat) (ls : List (Option AV)) : Prop := LS.size = nL ∧ lv_wf LS ∧ ∀ (j : Nat) (x : AV), ls[j]? = some (some x) → LS[j]? = some (.val (vv G x))
def prs (G : GG) : Nat → List (Option AV) → List (Nat × Value)
  | _, [] => []
  | i, none :: r => prs G (i + 1) r
  | i, some x :: r => (i, vv G x) :: prs G (i + 1) r
theorem prs_mem {G : GG} : ∀ (ls : List (Option AV)) (i : Nat) (q : Nat × Value), q ∈ prs G i ls ↔ ∃ (j : Nat) (x : AV), ls[j]? = some (some x) ∧ q = (i + j, vv G x)
  | [], i, q => by simp [prs]
  | none :: r, i, q => by
    rw [prs, prs_mem r (i + 1) q]
    constructor
    · rintro ⟨j, x, h, e⟩
      exact ⟨j + 1, x, by simpa using h, by rw [e, show i + 1 + j = i + (j + 1) by omega]⟩
    · rintro ⟨j, x, h, e⟩
      cases j with
      | zero => simp at h
      | succ j => exact ⟨j, x, by simpa using h, by rw [e, show i + 1 + j = i + (j + 1) by omega]⟩
  | some y :: r, i, q => by
    rw [prs, List.mem_cons, prs_mem r (i + 1) q]
    constructor
    · rintro (e | ⟨j, x, h, e⟩)
      · exact ⟨0, y, by simp, by rw [e]; rfl⟩
      · exact ⟨j + 1, x, by simpa using h, by rw [e, show i + 1 + j = i + (j + 1) by omega]⟩
    · rintro ⟨j, x, h, e⟩
      cases j with
      | zero => simp at h; subst h; exact Or.inl (by rw [e]; rfl)
      | succ j => exact Or.inr ⟨j, x, by simpa using h, by rw [e, show i + 1 + j = i + (j + 1) by omega]⟩
theorem lvh.has {G : GG} {LS : Array Slot} {nL : Nat} {ls : List (Option AV)} (h : lvh G LS nL ls) : lv_has LS nL (prs G 0 ls) := by
  refine ⟨h.1, h.2.1, fun q hq => ?_⟩
  obtain ⟨j, x, h1, e⟩ := (prs_mem ls 0 q).mp hq
  subst e
  rw [Nat.zero_add]
  exact h.2.2 j x h1
def isW : AV → Bool
  | .inr (.inl _) => true
  | _ => false
theorem vv_cat (G : GG) (x : AV) : (vv G x).category = if isW x then 2 else 1 := by
  obtain x | x | ⟨t, x⟩ := x
  · rfl
  · rfl
  · cases x <;> rfl
/-- a value of one slot is stored; what stands before is no long -/
theorem lvh.st1 {G : GG} {LS' : Array Slot} {nL i : Nat} {ls : List (Option AV)} {v : AV} (h : lv_has LS' nL ((i, vv G v) :: (prs G 0 ls).filter (fun q => !(q.1 == i) && !(q.1 + 1 == i && q.2.category == 2)))) (hk : ∀ (j : Nat) (x : AV), j + 1 = i → ls[j]? = some (some x) → isW x = false) : lvh G LS' nL (ls.set i (some v)) := by
  refine ⟨h.1, h.2.1, fun j x hj => ?_⟩
  by_cases hji : j = i
  · subst hji
    have hl := (List.getElem?_eq_some_iff.mp hj).1
    rw [List.length_set] at hl
    rw [List.getElem?_set_self hl] at hj
    cases hj
    exact h.2.2 (j, vv G v) List.mem_cons_self
  · rw [List.getElem?_set_ne (Ne.symm hji)] at hj
    refine h.2.2 (j, vv G x) (List.mem_cons_of_mem _ (List.mem_filter.mpr ⟨(prs_mem ls 0 _).mpr ⟨j, x, hj, by rw [Nat.zero_add]⟩, ?_⟩))
    by_cases hj1 : j + 1 = i
    · have := hk j x hj1 hj
      simp [hji, hj1, vv_cat, this]
    · simp [hji, hj1]
theorem lvh.st2 {G : GG} {LS' : Array Slot} {nL i : Nat} {ls : List (Option AV)} {v : AV} (h : lv_has LS' nL ((i, vv G v) :: (prs G 0 ls).filter (fun q => !(q.1 == i) && (!(q.1 == i + 1) && !(q.1 + 1 == i && q.2.category == 2))))) (hk : ∀ (j : Nat) (x : AV), j + 1 = i → ls[j]? = some (some x) → isW x = false) : lvh G LS' nL ((ls.set i (some v)).set (i + 1) none) := by
  refine ⟨h.1, h.2.1, fun j x hj => ?_⟩
  by_cases hj2 : j = i + 1
  · subst hj2
    have hl := (List.getElem?_eq_some_iff.mp hj).1
    rw [List.length_set] at hl
    rw [List.getElem?_set_self hl] at hj
    cases hj
  rw [List.getElem?_set_ne (Ne.symm hj2)] at hj
  by_cases hji : j = i
  · subst hji
    have hl := (List.getElem?_eq_some_iff.mp hj).1
    rw [List.length_set] at hl
    rw [List.getElem?_set_self hl] at hj
    cases hj
    exact h.2.2 (j, vv G v) List.mem_cons_self
  · rw [List.getElem?_set_ne (Ne.symm hji)] at hj
    refine h.2.2 (j, vv G x) (List.mem_cons_of_mem _ (List.mem_filter.mpr ⟨(prs_mem ls 0 _).mpr ⟨j, x, hj, by rw [Nat.zero_add]⟩, ?_⟩))
    by_cases hj1 : j + 1 = i
    · have := hk j x hj1 hj
      simp [hji, hj1, vv_cat, this, hj2]
    · simp [hji, hj1, hj2]
/-- what is the same for all of one run of a method -/
def Cx (G : GG) (p : Program) (s : State) (m : MethodId) (c : Code) (args : Array Value) (cc : ByteArray) (nL : Nat) (own : String) : Prop := p.tables.exec = Jvm.exec ∧ c.code = cc ∧ c.maxLocals = nL ∧ s.vm.findClass own = some m.cls ∧ (∀ w ∈ TT, w.before args s = true) ∧ GF G s s.heap ∧ G.1 ≤ s.heap.size
/-- from here the machine comes to Q: at pc, with these locals and this stack, over every heap that holds h -/
def V (ph : Bool) (G : GG) (p : Program) (l : Launch) (e : Env) (R : Room) (s : State) (m : MethodId) (args : Array Value) (below : List Frame) (meth : Method) (c : Code) (nL : Nat) (Q : State → Prop) (h : Hp) (cells slots pc : Nat) (ls : List (Option AV)) (st : List AV) : Prop :=
  ∀ (H : Heap) (locs : List Loc) (LS : Array Slot), WR ph G h H → va_S (A_ G) s.heap H locs → lvh G LS nL ls → W p l e R s m args below meth c H locs cells slots Q (F0 m pc LS (st.map (vv G)))
section VR
variable {ph : Bool} {G : GG} {p : Program} {l : Launch} {e : Env} {R : Room} {s : State} {m : MethodId} {args : Array Value} {below : List Frame} {meth : Method} {c : Code} {nL : Nat} {Q : State → Prop} {h : Hp} {cells slots pc pc' : Nat} {ls : List (Option AV)} {st : List AV} {cc : ByteArray} {own : String}
theorem v_at {LS : Array Slot} (hl : lvh G LS nL ls) {i : Nat} {x : AV} (hx : ls[i]? = some (some x)) : LS[i]? = some (.val (vv G x)) := hl.2.2 i x hx
theorem v_iconst (C : Cx G p s m c args cc nL own) {n : Int} {v : Int32} (hd : decode cc pc = .ok (.iconst n, 1)) (hv : Int32.ofInt n = v) (hp : pc + 1 = pc') (k : V ph G p l e R s m args below meth c nL Q h cells slots pc' ls (aI v :: st)) : V ph G p l e R s m args below meth c nL Q h cells slots pc ls (st) := by
  subst hp
  exact fun H locs LS a b d => lv_iconst C.1 C.2.1 hd hv (k H locs LS a b d)
theorem v_bipush (C : Cx G p s m c args cc nL own) {n : Int} {v : Int32} (hd : decode cc pc = .ok (.bipush n, 2)) (hv : (Int8.ofInt n).toInt32 = v) (hp : pc + 2 = pc') (k : V ph G p l e R s m args below meth c nL Q h cells slots pc' ls (aI v :: st)) : V ph G p l e R s m args below meth c nL Q h cells slots pc ls (st) := by
  subst hp
  exact fun H locs LS a b d => lv_bipush C.1 C.2.1 hd hv (k H locs LS a b d)
theorem v_sipush (C : Cx G p s m c args cc nL own) {n : Int} {v : Int32} (hd : decode cc pc = .ok (.sipush n, 3)) (hv : (Int16.ofInt n).toInt32 = v) (hp : pc + 3 = pc') (k : V ph G p l e R s m args below meth c nL Q h cells slots pc' ls (aI v :: st)) : V ph G p l e R s m args below meth c nL Q h cells slots pc ls (st) := by
  subst hp
  exact fun H locs LS a b d => lv_sipush C.1 C.2.1 hd hv (k H locs LS a b d)
theorem v_lconst (C : Cx G p s m c args cc nL own) {n : Fin 2} {v : Int64} (hd : decode cc pc = .ok (.lconst n, 1)) (hv : Int64.ofNat (n : Nat) = v) (hp : pc + 1 = pc') (k : V ph G p l e R s m args below meth c nL Q h cells slots pc' ls (aL v :: st)) : V ph G p l e R s m args below meth c nL Q h cells slots pc ls (st) := by
  subst hp
  exact fun H locs LS a b d => lv_lconst C.1 C.2.1 hd hv (k H locs LS a b d)
theorem v_iadd (C : Cx G p s m c args cc nL own) {x y : Int32} (hd : decode cc pc = .ok (.iadd, 1))  (hp : pc + 1 = pc') (k : V ph G p l e R s m args below meth c nL Q h cells slots pc' ls (aI (x + y) :: st)) : V ph G p l e R s m args below meth c nL Q h cells slots pc ls (aI y :: aI x :: st) := by
  subst hp
  exact fun H locs LS a b d => lv_iadd C.1 C.2.1 hd (k H locs LS a b d)
theorem v_isub (C : Cx G p s m c args cc nL own) {x y : Int32} (hd : decode cc pc = .ok (.isub, 1))  (hp : pc + 1 = pc') (k : V ph G p l e R s m args below meth c nL Q h cells slots pc' ls (aI (x - y) :: st)) : V ph G p l e R s m args below meth c nL Q h cells slots pc ls (aI y :: aI x :: st) := by
  subst hp
  exact fun H locs LS a b d => lv_isub C.1 C.2.1 hd (k H locs LS a b d)
theorem v_imul (C : Cx G p s m c args cc nL own) {x y : Int32} (hd : decode cc pc = .ok (.imul, 1))  (hp : pc + 1 = pc') (k : V ph G p l e R s m args below meth c nL Q h cells slots pc' ls (aI (x * y) :: st)) : V ph G p l e R s m args below meth c nL Q h cells slots pc ls (aI y :: aI x :: st) := by
  subst hp
  exact fun H locs LS a b d => lv_imul C.1 C.2.1 hd (k H locs LS a b d)
theorem v_iand (C : Cx G p s m c args cc nL own) {x y : Int32} (hd : decode cc pc = .ok (.iand, 1))  (hp : pc + 1 = pc') (k : V ph G p l e R s m args below meth c nL Q h cells slots pc' ls (aI (x &&& y) :: st)) : V ph G p l e R s m args below meth c nL Q h cells slots pc ls (aI y :: aI x :: st) := by
  subst hp
  exact fun H locs LS a b d => lv_iand C.1 C.2.1 hd (k H locs LS a b d)
theorem v_ior (C : Cx G p s m c args cc nL own) {x y : Int32} (hd : decode cc pc = .ok (.ior, 1))  (hp : pc + 1 = pc') (k : V ph G p l e R s m args below meth c nL Q h cells slots pc' ls (aI (x ||| y) :: st)) : V ph G p l e R s m args below meth c nL Q h cells slots pc ls (aI y :: aI x :: st) := by
  subst hp
  exact fun H locs LS a b d => lv_ior C.1 C.2.1 hd (k H locs LS a b d)
theorem v_ishl (C : Cx G p s m c args cc nL own) {x y : Int32} (hd : decode cc pc = .ok (.ishl, 1))  (hp : pc + 1 = pc') (k : V ph G p l e R s m args below meth c nL Q h cells slots pc' ls (aI (x <<< (y &&& 31)) :: st)) : V ph G p l e R s m args below meth c nL Q h cells slots pc ls (aI y :: aI x :: st) := by
  subst hp
  exact fun H locs LS a b d => lv_ishl C.1 C.2.1 hd (k H locs LS a b d)
theorem v_ishr (C : Cx G p s m c args cc nL own) {x y : Int32} (hd : decode cc pc = .ok (.ishr, 1))  (hp : pc + 1 = pc') (k : V ph G p l e R s m args below meth c nL Q h cells slots pc' ls (aI (x >>> (y &&& 31)) :: st)) : V ph G p l e R s m args below meth c nL Q h cells slots pc ls (aI y :: aI x :: st) := by
  subst hp
  exact fun H locs LS a b d => lv_ishr C.1 C.2.1 hd (k H locs LS a b d)
theorem v_idiv (C : Cx G p s m c args cc nL own) {x y : Int32} (hd : decode cc pc = .ok (.idiv, 1)) (hn : ¬ y = 0) (hp : pc + 1 = pc') (k : V ph G p l e R s m args below meth c nL Q h cells slots pc' ls (aI (x / y) :: st)) : V ph G p l e R s m args below meth c nL Q h cells slots pc ls (aI y :: aI x :: st) := by
  subst hp
  exact fun H locs LS a b d => lv_idiv C.1 C.2.1 hd hn (k H locs LS a b d)
theorem v_irem (C : Cx G p s m c args cc nL own) {x y : Int32} (hd : decode cc pc = .ok (.irem, 1)) (hn : ¬ y = 0) (hp : pc + 1 = pc') (k : V ph G p l e R s m args below meth c nL Q h cells slots pc' ls (aI (x - (x / y) * y) :: st)) : V ph G p l e R s m args below meth c nL Q h cells slots pc ls (aI y :: aI x :: st) := by
  subst hp
  exact fun H locs LS a b d => lv_irem C.1 C.2.1 hd hn (k H locs LS a b d)
theorem v_ladd (C : Cx G p s m c args cc nL own) {x y : Int64} (hd : decode cc pc = .ok (.ladd, 1))  (hp : pc + 1 = pc') (k : V ph G p l e R s m args below meth c nL Q h cells slots pc' ls (aL (x + y) :: st)) : V ph G p l e R s m args below meth c nL Q h cells slots pc ls (aL y :: aL x :: st) := by
  subst hp
  exact fun H locs LS a b d => lv_ladd C.1 C.2.1 hd (k H locs LS a b d)
theorem v_land (C : Cx G p s m c args cc nL own) {x y : Int64} (hd : decode cc pc = .ok (.land, 1))  (hp : pc + 1 = pc') (k : V ph G p l e R s m args below meth c nL Q h cells slots pc' ls (aL (x &&& y) :: st)) : V ph G p l e R s m args below meth c nL Q h cells slots pc ls (aL y :: aL x :: st) := by
  subst hp
  exact fun H locs LS a b d => lv_land C.1 C.2.1 hd (k H locs LS a b d)
theorem v_lor (C : Cx G p s m c args cc nL own) {x y : Int64} (hd : decode cc pc = .ok (.lor, 1))  (hp : pc + 1 = pc') (k : V ph G p l e R s m args below meth c nL Q h cells slots pc' ls (aL (x ||| y) :: st)) : V ph G p l e R s m args below meth c nL Q h cells slots pc ls (aL y :: aL x :: st) := by
  subst hp
  exact fun H locs LS a b d => lv_lor C.1 C.2.1 hd (k H locs LS a b d)
theorem v_lshl (C : Cx G p s m c args cc nL own) {x : Int64} {y : Int32} (hd : decode cc pc = .ok (.lshl, 1))  (hp : pc + 1 = pc') (k : V ph G p l e R s m args below meth c nL Q h cells slots pc' ls (aL (x <<< (y.toInt64 &&& 63)) :: st)) : V ph G p l e R s m args below meth c nL Q h cells slots pc ls (aI y :: aL x :: st) := by
  subst hp
  exact fun H locs LS a b d => lv_lshl C.1 C.2.1 hd rfl (k H locs LS a b d)
theorem v_lshr (C : Cx G p s m c args cc nL own) {x : Int64} {y : Int32} (hd : decode cc pc = .ok (.lshr, 1))  (hp : pc + 1 = pc') (k : V ph G p l e R s m args below meth c nL Q h cells slots pc' ls (aL (x >>> (y.toInt64 &&& 63)) :: st)) : V ph G p l e R s m args below meth c nL Q h cells slots pc ls (aI y :: aL x :: st) := by
  subst hp
  exact fun H locs LS a b d => lv_lshr C.1 C.2.1 hd rfl (k H locs LS a b d)
theorem v_lushr (C : Cx G p s m c args cc nL own) {x : Int64} {y : Int32} (hd : decode cc pc = .ok (.lushr, 1))  (hp : pc + 1 = pc') (k : V ph G p l e R s m args below meth c nL Q h cells slots pc' ls (aL ((x.toUInt64 >>> (y.toInt64.toUInt64 &&& Int64.toUInt64 63)).toInt64) :: st)) : V ph G p l e R s m args below meth c nL Q h cells slots pc ls (aI y :: aL x :: st) := by
  subst hp
  exact fun H locs LS a b d => lv_lushr C.1 C.2.1 hd rfl (k H locs LS a b d)
theorem v_i2l (C : Cx G p s m c args cc nL own) {x : Int32} (hd : decode cc pc = .ok (.i2l, 1))  (hp : pc + 1 = pc') (k : V ph G p l e R s m args below meth c nL Q h cells slots pc' ls (aL x.toInt64 :: st)) : V ph G p l e R s m args below meth c nL Q h cells slots pc ls (aI x :: st) := by
  subst hp
  exact fun H locs LS a b d => lv_i2l C.1 C.2.1 hd rfl (k H locs LS a b d)
theorem v_l2i (C : Cx G p s m c args cc nL own) {x : Int64} (hd : decode cc pc = .ok (.l2i, 1))  (hp : pc + 1 = pc') (k : V ph G p l e R s m args below meth c nL Q h cells slots pc' ls (aI x.toInt32 :: st)) : V ph G p l e R s m args below meth c nL Q h cells slots pc ls (aL x :: st) := by
  subst hp
  exact fun H locs LS a b d => lv_l2i C.1 C.2.1 hd rfl (k H locs LS a b d)
theorem v_i2c (C : Cx G p s m c args cc nL own) {x : Int32} (hd : decode cc pc = .ok (.i2c, 1))  (hp : pc + 1 = pc') (k : V ph G p l e R s m args below meth c nL Q h cells slots pc' ls (aI (x.toUInt32 % 65536).toInt32 :: st)) : V ph G p l e R s m args below meth c nL Q h cells slots pc ls (aI x :: st) := by
  subst hp
  exact fun H locs LS a b d => lv_i2c C.1 C.2.1 hd rfl (k H locs LS a b d)
theorem v_lcmp (C : Cx G p s m c args cc nL own) {x y : Int64} (hd : decode cc pc = .ok (.lcmp, 1)) (hp : pc + 1 = pc') (k : V ph G p l e R s m args below meth c nL Q h cells slots pc' ls (aI (lg_cmp x y) :: st)) : V ph G p l e R s m args below meth c nL Q h cells slots pc ls (aL y :: aL x :: st) := by
  subst hp
  exact fun H locs LS a b d => W.lcmp C.1 C.2.1 hd (k H locs LS a b d)
theorem v_null (C : Cx G p s m c args cc nL own) {t : Nat} (hd : decode cc pc = .ok (.aconst_null, 1)) (hp : pc + 1 = pc') (k : V ph G p l e R s m args below meth c nL Q h cells slots pc' ls (aA t none :: st)) : V ph G p l e R s m args below meth c nL Q h cells slots pc ls st := by
  subst hp
  exact fun H locs LS a b d => lv_null C.1 C.2.1 hd (k H locs LS a b d)
theorem v_pop (C : Cx G p s m c args cc nL own) {x : AV} (hd : decode cc pc = .ok (.pop, 1)) (hx : isW x = false) (hp : pc + 1 = pc') (k : V ph G p l e R s m args below meth c nL Q h cells slots pc' ls (st)) : V ph G p l e R s m args below meth c nL Q h cells slots pc ls (x :: st) := by
  subst hp
  exact fun H locs LS a b d => lv_pop C.1 C.2.1 hd (by rw [vv_cat, hx]; rfl) (k H locs LS a b d)
theorem v_dup (C : Cx G p s m c args cc nL own) {x : AV} (hd : decode cc pc = .ok (.dup, 1)) (hx : isW x = false) (hp : pc + 1 = pc') (k : V ph G p l e R s m args below meth c nL Q h cells slots pc' ls (x :: x :: st)) : V ph G p l e R s m args below meth c nL Q h cells slots pc ls (x :: st) := by
  subst hp
  exact fun H locs LS a b d => lv_dup C.1 C.2.1 hd (by rw [vv_cat, hx]; rfl) (k H locs LS a b d)
theorem v_dup_x1 (C : Cx G p s m c args cc nL own) {x y : AV} (hd : decode cc pc = .ok (.dup_x1, 1)) (hx : isW x = false) (hy : isW y = false) (hp : pc + 1 = pc') (k : V ph G p l e R s m args below meth c nL Q h cells slots pc' ls (x :: y :: x :: st)) : V ph G p l e R s m args below meth c nL Q h cells slots pc ls (x :: y :: st) := by
  subst hp
  exact fun H locs LS a b d => lv_dup_x1 C.1 C.2.1 hd (by rw [vv_cat, hx]; rfl) (by rw [vv_cat, hy]; rfl) (k H locs LS a b d)
theorem v_goto (C : Cx G p s m c args cc nL own) {off : Int} (hd : decode cc pc = .ok (.goto off, 3)) (hp : (pc : Int) + off = (pc' : Int)) (k : V ph G p l e R s m args below meth c nL Q h cells slots pc' ls st) : V ph G p l e R s m args below meth c nL Q h cells slots pc ls st := fun H locs LS a b d => lv_goto C.1 C.2.1 hd hp (k H locs LS a b d)
theorem v_ldc (C : Cx G p s m c args cc nL own) {i : Nat} {v : Int32} (hd : decode cc pc = .ok (.ldc i, 2)) (hw : Cond.constant own i v ∈ TT) (hp : pc + 2 = pc') (k : V ph G p l e R s m args below meth c nL Q h cells slots pc' ls (aI v :: st)) : V ph G p l e R s m args below meth c nL Q h cells slots pc ls st := by
  subst hp
  exact fun H locs LS a b d => lv_ldc C.1 C.2.1 C.2.2.2.1 (C.2.2.2.2.1 _ hw) hd (k H locs LS a b d)
theorem v_ldc2 (C : Cx G p s m c args cc nL own) {i : Nat} {v : Int64} (hd : decode cc pc = .ok (.ldc2_w i, 3)) (hw : Cond.constantLong own i v ∈ TT) (hp : pc + 3 = pc') (k : V ph G p l e R s m args below meth c nL Q h cells slots pc' ls (aL v :: st)) : V ph G p l e R s m args below meth c nL Q h cells slots pc ls st := by
  subst hp
  exact fun H locs LS a b d => lv_ldc2 C.1 C.2.1 C.2.2.2.1 (C.2.2.2.2.1 _ hw) hd (k H locs LS a b d)
theorem v_iload_n (C : Cx G p s m c args cc nL own) {q : Fin 4} {i : Nat} {x : Int32} (hd : decode cc pc = .ok (.iload_n q, 1)) (hi : (q : Nat) = i) (hx : ls[i]? = some (some (aI x))) (hp : pc + 1 = pc') (k : V ph G p l e R s m args below meth c nL Q h cells slots pc' ls (aI x :: st)) : V ph G p l e R s m args below meth c nL Q h cells slots pc ls st := by
  subst hp
  exact fun H locs LS a b d => lv_iload_n C.1 C.2.1 hd hi (v_at d hx) (k H locs LS a b d)
theorem v_iload (C : Cx G p s m c args cc nL own) {i : Nat} {x : Int32} (hd : decode cc pc = .ok (.iload i, 2)) (hx : ls[i]? = some (some (aI x))) (hp : pc + 2 = pc') (k : V ph G p l e R s m args below meth c nL Q h cells slots pc' ls (aI x :: st)) : V ph G p l e R s m args below meth c nL Q h cells slots pc ls st := by
  subst hp
  exact fun H locs LS a b d => lv_iload C.1 C.2.1 hd (v_at d hx) (k H locs LS a b d)
theorem v_lload_n (C : Cx G p s m c args cc nL own) {q : Fin 4} {i : Nat} {x : Int64} (hd : decode cc pc = .ok (.lload_n q, 1)) (hi : (q : Nat) = i) (hx : ls[i]? = some (some (aL x))) (hp : pc + 1 = pc') (k : V ph G p l e R s m args below meth c nL Q h cells slots pc' ls (aL x :: st)) : V ph G p l e R s m args below meth c nL Q h cells slots pc ls st := by
  subst hp
  exact fun H locs LS a b d => lv_lload_n C.1 C.2.1 hd hi (v_at d hx) (k H locs LS a b d)
theorem v_lload (C : Cx G p s m c args cc nL own) {i : Nat} {x : Int64} (hd : decode cc pc = .ok (.lload i, 2)) (hx : ls[i]? = some (some (aL x))) (hp : pc + 2 = pc') (k : V ph G p l e R s m args below meth c nL Q h cells slots pc' ls (aL x :: st)) : V ph G p l e R s m args below meth c nL Q h cells slots pc ls st := by
  subst hp
  exact fun H locs LS a b d => lv_lload C.1 C.2.1 hd (v_at d hx) (k H locs LS a b d)
end VR
