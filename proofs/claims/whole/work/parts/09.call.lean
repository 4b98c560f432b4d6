section VC
variable {ph : Bool} {G : GG} {p : Program} {l : Launch} {e : Env} {R : Room} {s : State} {m : MethodId} {args : Array Value} {below : List Frame} {meth : Method} {c : Code} {nL : Nat} {Q : State → Prop} {h h' : Hp} {cells slots pc pc' : Nat} {ls : List (Option AV)} {st rest : List AV} {cc : ByteArray} {own : String} {rv : Option AV} {mc ms : Nat}
theorem v_after {a : Array Value} {H : Heap} {locs : List Loc} {LS : Array Slot} {st1 rest1 : List Value} (hr : va_Run p l e R s m args below meth c H locs cells slots mc ms (F0 m pc LS st1) rest1 (QcA ph G rv h' a) (A_ G)) (b : va_S (A_ G) s.heap H locs) (hrest : rest1 = rest.map (vv G)) (d : lvh G LS nL ls) (kk : V ph G p l e R s m args below meth c nL Q h' (cells + mc) (slots + ms) (pc + 3) ls (rv.toList ++ rest)) : W p l e R s m args below meth c H locs cells slots Q (F0 m pc LS st1) := by
  intro T hT X
  obtain ⟨v, st₀, t, T', L, h0, X', hL, e1, e2, ⟨⟨hv, hWR⟩, hz, hk⟩, st'⟩ := hr T hT X
  have hv' : v = rv.map (vv G) := by cases hv; rfl
  subst hv'
  subst hrest
  rw [h0] at hz hk
  rw [← e1] at hWR hz hk
  have hS' : va_S (A_ G) s.heap T'.heap (locs ++ L) := ⟨Nat.le_trans b.1 hz, fun q h1 h2 => (hk q (Nat.lt_of_lt_of_le h1 b.1) h2).trans (b.2.1 q h1 h2), fun q hq => by
    rcases List.mem_append.mp hq with z | z
    · exact b.2.2 q z
    · exact hL q z⟩
  obtain ⟨t2, a1, b1⟩ := kk T'.heap (locs ++ L) LS hWR hS' d T' rfl X'
  refine ⟨t2, st' t2 ?_, b1⟩
  have es : (rv.map (vv G)).toList ++ rest.map (vv G) = (rv.toList ++ rest).map (vv G) := by cases rv <;> simp
  show Steps p.tables e below (T'.setTop (F0 m (pc + 3) LS ((rv.map (vv G)).toList ++ rest.map (vv G)))) t2
  rw [es]
  exact a1
theorem pc_ok (C : Cx G p s m c args cc nL own) {H : Heap} {locs : List Loc} (a : WR ph G h H) (b : va_S (A_ G) s.heap H locs) (vs : List AV) {U : State} (hU : U.heap = H) (hW : s.WarmedH U.vm) : PcA ph G vs h (vs.map (vv G)).toArray U := by
  refine ⟨rfl, by rw [hU]; exact Nat.le_trans C.2.2.2.2.2.2 b.1, by rw [hU]; exact a, ?_⟩
  rw [hU]
  exact C.2.2.2.2.2.1.to hW b.2.1
theorem pc_blind (vs : List AV) (h : Hp) : FrameBlind (PcA ph G vs h) := by
  intro a U g mk q
  obtain ⟨q1, q2, q3, q4⟩ := q
  exact ⟨q1, q2, q3, q4.same rfl⟩
theorem tt_in {y y' : MethodName} {b b' : ByteArray} {n n' : Nat} {r r' : Option FieldType} (h : Cond.code y b n r ∈ TT) : GoodIn TT (.code y b n r :: TT) := by
  intro w hw
  have hm : w ∈ TT := by
    rcases List.mem_cons.mp hw with q | q
    · rw [q]; exact h
    · exact q
  exact ⟨hm, good_of_word (TT_good w hm)⟩
def plainC (y : MethodName) (n : Nat) : Prop := y.cls ≠ "java/lang/invoke/MethodHandle" ∧ y.cls ≠ "java/lang/invoke/VarHandle" ∧ (parseMethodDescriptor y.desc).map (fun d => d.parameters.length) = some n
def MVk (own : String) (idx : Nat) (y : MethodName) (b : ByteArray) (nLy : Nat) (ret : Option FieldType) (n : Nat) : Prop := Cond.methodLink own idx y ∈ TT ∧ Cond.instanceMethod y ∈ TT ∧ Cond.selects y.cls y y ∈ TT ∧ Cond.initialized y.cls ∈ TT ∧ Cond.code y b nLy ret ∈ TT ∧ plainC y n
def MSk (own : String) (idx : Nat) (y : MethodName) (b : ByteArray) (nLy : Nat) (ret : Option FieldType) (n : Nat) : Prop := Cond.methodLink own idx y ∈ TT ∧ Cond.static y ∈ TT ∧ Cond.initialized y.cls ∈ TT ∧ Cond.code y b nLy ret ∈ TT ∧ plainC y n
def MIk (own : String) (idx : Nat) (y : MethodName) (b : ByteArray) (nLy : Nat) (n : Nat) : Prop := Cond.methodLink own idx y ∈ TT ∧ Cond.instanceMethod y ∈ TT ∧ Cond.initialized y.cls ∈ TT ∧ Cond.code y b nLy none ∈ TT ∧ y.name = "<init>" ∧ plainC y n
theorem rest_cat {G : GG} : ∀ (r : List AV), ((r.map (vv G)).map fun v => v.category).sum = (r.map fun x => if isW x then 2 else 1).sum
  | [] => rfl
  | x :: r => by
    have ih := rest_cat (G := G) r
    simp only [List.map_cons, List.sum_cons, vv_cat, ih]
theorem v_callVg (C : Cx G p s m c args cc nL own) {y : MethodName} {b : ByteArray} {nLy n fr lo idx q i : Nat} {ret : Option FieldType} {As : List AV} (hC : Ctr l y b nLy ret fr lo mc ms ph (aA q (some i) :: As) h rv h') (hm : MVk own idx y b nLy ret n) (hrecv : ∀ (H : Heap) (locs : List Loc), WR ph G h H → va_S (A_ G) s.heap H locs → ∃ cell : Cell, H[loc G (q, i)]? = some cell ∧ cell.vm.isStatics = false ∧ s.vm.findClass y.cls = some cell.cls)
    (hd : decode cc pc = .ok (.invokevirtual idx, 3)) (hp : pc + 3 = pc') (hn : As.length = n) (hst : As.reverse ++ aA q (some i) :: rest = st) (hR : fr + 1 ≤ R.frames ∧ 8 + (nLy + 11) + lo ≤ R.locals) (hW : (rest.map fun x => if isW x then 2 else 1).sum ≤ 8) (hcs : cells + mc ≤ R.cells ∧ slots + ms ≤ R.slots)
    (kk : V ph G p l e R s m args below meth c nL Q h' (cells + mc) (slots + ms) pc' ls (rv.toList ++ rest)) : V ph G p l e R s m args below meth c nL Q h cells slots pc ls st := by
  subst hp
  subst hst
  intro H locs LS a hS d
  obtain ⟨w1, w2, w3, w4, w5, w6⟩ := hm
  have hG : GoodIn TT (wsV own idx y.cls y (.code y b nLy ret :: TT)) := by
    intro w hw
    rcases List.mem_append.mp hw with z | z
    · have hm : w ∈ TT := by
        simp only [List.mem_cons, List.not_mem_nil, or_false] at z
        rcases z with rfl | rfl | rfl | rfl <;> assumption
      exact ⟨hm, good_of_word (TT_good w hm)⟩
    · exact tt_in (y' := y) (b' := cc) (n' := 0) (r' := none) w5 w z
  have hr := va_runV (p := p) (e := e) (below := below) (meth := meth) (locs := locs) (cells := cells) (slots := slots) (As := As.map (vv G)) (rest := rest.map (vv G)) (g := F0 m pc LS ((As.reverse ++ aA q (some i) :: rest).map (vv G))) ⟨C.1, C.2.1, C.2.2.1, C.2.2.2.1, C.2.2.2.2.1⟩ (hC G) (cwV n C.2.2.2.2.1 hG rfl rfl rfl ⟨rfl, w6⟩ hR) (b := loc G (q, i)) (H := H) ⟨pc_blind _ _, hrecv H locs a hS, fun U hU hW => pc_ok C a hS (aA q (some i) :: As) hU hW⟩ rfl (by rw [List.length_map]; exact hn) d.1 (by show List.map (vv G) _ = _; rw [List.map_append, List.map_reverse, List.map_cons]; rfl) (lv_room (by rw [rest_cat]; exact hW)) hd hcs
  exact v_after hr hS rfl d kk
theorem v_callS (C : Cx G p s m c args cc nL own) {y : MethodName} {b : ByteArray} {nLy n fr lo idx : Nat} {ret : Option FieldType} {As : List AV} (hC : Ctr l y b nLy ret fr lo mc ms ph As h rv h') (hm : MSk own idx y b nLy ret n)
    (hd : decode cc pc = .ok (.invokestatic idx, 3)) (hp : pc + 3 = pc') (hn : As.length = n) (hst : As.reverse ++ rest = st) (hR : fr + 1 ≤ R.frames ∧ 8 + (nLy + 11) + lo ≤ R.locals) (hW : (rest.map fun x => if isW x then 2 else 1).sum ≤ 8) (hcs : cells + mc ≤ R.cells ∧ slots + ms ≤ R.slots)
    (kk : V ph G p l e R s m args below meth c nL Q h' (cells + mc) (slots + ms) pc' ls (rv.toList ++ rest)) : V ph G p l e R s m args below meth c nL Q h cells slots pc ls st := by
  subst hp
  subst hst
  intro H locs LS a hS d
  obtain ⟨w1, w2, w4, w5, w6⟩ := hm
  have hG : GoodIn TT (va_wsS own idx y (.code y b nLy ret :: TT)) := by
    intro w hw
    rcases List.mem_append.mp hw with z | z
    · have hm : w ∈ TT := by
        simp only [List.mem_cons, List.not_mem_nil, or_false] at z
        rcases z with rfl | rfl | rfl <;> assumption
      exact ⟨hm, good_of_word (TT_good w hm)⟩
    · exact tt_in (y' := y) (b' := cc) (n' := 0) (r' := none) w5 w z
  have hr := va_runS (p := p) (e := e) (below := below) (meth := meth) (locs := locs) (cells := cells) (slots := slots) (As := As.map (vv G)) (rest := rest.map (vv G)) (g := F0 m pc LS ((As.reverse ++ rest).map (vv G))) ⟨C.1, C.2.1, C.2.2.1, C.2.2.2.1, C.2.2.2.2.1⟩ (hC G) (va_cwS n C.2.2.2.2.1 hG rfl rfl rfl w6 hR) (H := H) ⟨pc_blind _ _, fun U hU hW => pc_ok C a hS As hU hW⟩ rfl (by rw [List.length_map]; exact hn) d.1 (by show List.map (vv G) _ = _; rw [List.map_append, List.map_reverse]) (lv_room (by rw [rest_cat]; exact hW)) hd hcs
  exact v_after hr hS rfl d kk
/-- a method of an object of the made ones -/
theorem v_callV (C : Cx G p s m c args cc nL own) {y : MethodName} {b : ByteArray} {nLy n fr lo idx t i ci N : Nat} {T : u_T} {tys : List Nat} {ret : Option FieldType} {As : List AV} (hC : Ctr l y b nLy ret fr lo mc ms ph (aA t (some i) :: As) h rv h') (hm : MVk own idx y b nLy ret n) (hs : shp t = .inl (ci, tys)) (hcl : vwCl[ci]? = some (y.cls, T, N)) (hv : lvq ph h (t, i))
    (hd : decode cc pc = .ok (.invokevirtual idx, 3)) (hp : pc + 3 = pc') (hn : As.length = n) (hst : As.reverse ++ aA t (some i) :: rest = st) (hR : fr + 1 ≤ R.frames ∧ 8 + (nLy + 11) + lo ≤ R.locals) (hW : (rest.map fun x => if isW x then 2 else 1).sum ≤ 8) (hcs : cells + mc ≤ R.cells ∧ slots + ms ≤ R.slots)
    (kk : V ph G p l e R s m args below meth c nL Q h' (cells + mc) (slots + ms) pc' ls (rv.toList ++ rest)) : V ph G p l e R s m args below meth c nL Q h cells slots pc ls st := by
  refine v_callVg C hC hm (fun H locs a _ => ?_) hd hp hn hst hR hW hcs kk
  have hc : (wl G h)[pos (t, i)]? = some (loc G (t, i), .inr (ci, mkF G h (t, i) tys 0)) := by
    rw [wl_cell a hv]; unfold cellE; rw [show (((t, i) : Ad).1) = t from rfl, hs]
  exact va_recv C.2.2.2.2.2.1.1 a.2.1 hcl hc
end VC
