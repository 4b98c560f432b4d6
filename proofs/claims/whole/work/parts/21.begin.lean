/-! The two objects are made: the abstract heap with which the law's loop begins, hS. -/
def hZ : Hp := (fun _ _ => 0, fun _ _ => 0, fun _ _ => none, 0)
def hB : Hp := (r_init (sN hZ)).getD hZ
def hS : Hp := (m_init (sN hB)).getD hZ
set_option maxRecDepth 20000 in
theorem hB_some : (r_init (sN hZ)).isSome = true := by decide +kernel
theorem hB_ok : r_init (sN hZ) = some hB := by
  have h := hB_some
  unfold hB
  cases e : r_init (sN hZ) with
  | none => rw [e] at h; cases h
  | some x => rfl
set_option maxRecDepth 20000 in
theorem hB_n : gn hB = 62 := by decide +kernel
set_option maxRecDepth 20000 in
theorem hS_some : (m_init (sN hB)).isSome = true := by decide +kernel
theorem hS_ok : m_init (sN hB) = some hS := by
  have h := hS_some
  unfold hS
  cases e : m_init (sN hB) with
  | none => rw [e] at h; cases h
  | some x => rfl
set_option maxRecDepth 20000 in
theorem hS_n : gn hS = 74 := by decide +kernel
def fokB (h : Hp) : Bool := (List.range 74).all fun k => (List.range 32).all fun s => match FR (unp k).1 (unp k).2 s with
  | none => true
  | some j => gR h (unp k) s == some j
set_option maxRecDepth 20000 in
theorem hS_fokB : fokB hS = true := by decide +kernel
set_option maxRecDepth 20000 in
theorem hS_all : (List.range 24).all (fun i => gR hS (4, 0) i == some i) = true := by decide +kernel
theorem FR_lt {t i s j : Nat} (h : FR t i s = some j) : s < 32 := by
  unfold FR at h
  split at h <;> first | omega | cases h
theorem hS_Fok : Fok hS := by
  refine ⟨fun t i s j h1 h2 h3 => ?_, fun i hi => ?_⟩
  · have h := hS_fokB
    unfold fokB at h
    rw [List.all_eq_true] at h
    have h4 := h (pos (t, i)) (List.mem_range.mpr h2)
    rw [List.all_eq_true] at h4
    have h5 := h4 s (List.mem_range.mpr (FR_lt h3))
    rw [h1] at h5
    simp only [h3, beq_iff_eq] at h5
    exact h5
  · have h := hS_all
    rw [List.all_eq_true] at h
    exact beq_iff_eq.mp (h i (List.mem_range.mpr hi))
theorem V.up {G : GG} {p : Program} {l : Launch} {e : Env} {R : Room} {s : State} {m : MethodId} {args : Array Value} {below : List Frame} {meth : Method} {c : Code} {nL : Nat} {Q : State → Prop} {h : Hp} {cells slots pc : Nat} {ls : List (Option AV)} {st : List AV} (hF : Fok h) (hn : 74 ≤ gn h) (k : V true G p l e R s m args below meth c nL Q h cells slots pc ls st) : V false G p l e R s m args below meth c nL Q h cells slots pc ls st := fun H locs LS a b d => k H locs LS ⟨a.1, a.2.1, a.2.2.1, fun _ => ⟨hF, hn⟩⟩ b d
set_option maxHeartbeats 4000000 in
set_option maxRecDepth 20000 in
/-- the law, from its entry, if its function answers 1 -/
theorem start_of (hpure : ∀ (xs : Nat → Int32) (L : Nat), L ≤ 320 → law_f xs L hS = some (1 : Int32)) {p : Program} {e : Env} {s : State} {m : MethodId} {below : List Frame} {meth : Method} {c : Code} (l : Launch) {b L : Nat} {xs : Nat → Int32} (hL : L ≤ 320) (C0 : lw_At p s m meth c b L xs) : W p l e room_1 s m #[Value.ref b] below meth c s.heap [] 0 0 (lw_Z below #[Value.ref b] s) (entryFrame m ([Value.ref b] : List Value).toArray 4) := by
  obtain ⟨hx, hb, hr, hml, hown, hts, hX, hbl, hlk, hgv⟩ := id C0
  obtain ⟨G, hG1, hb8, hGF⟩ := gf_start hts hgv
  have hbA : ¬ A_ G b := by
    show ¬ G.1 ≤ b
    rw [hG1]
    exact Nat.not_le.mpr hbl
  have C : Cx G p s m c #[Value.ref b] code 4 RL := ⟨hx, hb, hml, hown, fun w hw => hts w (List.mem_filter.mp hw).1, hGF, by rw [hG1]; exact Nat.le_refl _⟩
  have key : V false G p l e room_1 s m #[Value.ref b] below meth c 4 (lw_Z below #[Value.ref b] s) hZ 0 0 0 [some (aA 108 (some 0)), none, none, none] [] := by
    refine v_new C (t := 0) (i := 0) (pc' := 3) (by decide +kernel) rfl nw_L_7 ⟨Nat.le_of_ble_eq_true rfl, Nat.le_of_ble_eq_true rfl⟩ dL_law_0 rfl ?_
    refine v_dup C (pc' := 4) dL_law_3 rfl rfl ?_
    refine v_callI C (pc' := 7) (rest := [aA 0 (some 0)]) (c_r_init l (sN hZ) hB hB_ok) mi_L_9 dL_law_4 rfl rfl rfl ⟨Nat.le_of_ble_eq_true rfl, Nat.le_of_ble_eq_true rfl⟩ (Nat.le_of_ble_eq_true rfl) ⟨Nat.le_of_ble_eq_true rfl, Nat.le_of_ble_eq_true rfl⟩ ?_
    refine v_astore1 C (pc' := 8) dL_law_7 (by decide) rfl rfl ?_
    refine v_new C (t := 20) (i := 0) (pc' := 11) (by rw [hB_n]; decide +kernel) rfl nw_L_10 ⟨Nat.le_of_ble_eq_true rfl, Nat.le_of_ble_eq_true rfl⟩ dL_law_8 rfl ?_
    refine v_dup C (pc' := 12) dL_law_11 rfl rfl ?_
    refine v_callI C (pc' := 15) (rest := [aA 20 (some 0)]) (c_m_init l (sN hB) hS hS_ok) mi_L_12 dL_law_12 rfl rfl rfl ⟨Nat.le_of_ble_eq_true rfl, Nat.le_of_ble_eq_true rfl⟩ (Nat.le_of_ble_eq_true rfl) ⟨Nat.le_of_ble_eq_true rfl, Nat.le_of_ble_eq_true rfl⟩ ?_
    refine v_astore2 C (pc' := 16) dL_law_15 (by decide) rfl rfl ?_
    refine V.up hS_Fok (by rw [hS_n]; omega) ?_
    refine V.widen (ce := 100) (sl := 3000) (Nat.le_of_ble_eq_true rfl) (Nat.le_of_ble_eq_true rfl) ?_
    exact law_walk hS hL C hr hlk hX hbl hbA hb8 hG1 (hpure xs L hL)
  have hl := lv_entry ([.ref b]) (n := 4) (Nat.le_of_ble_eq_true rfl)
  rw [lg_entry_eq]
  refine key s.heap [] _ ⟨hG1.symm, fun k q h => by simp [wl, gn, hZ] at h, fun k _ s => ⟨rfl, rfl, rfl⟩, fun z => by cases z⟩ va_S.rf ⟨hl.1, hl.2.1, fun j x hx => ?_⟩
  match j, hx with
  | 0, hx =>
    cases hx
    have := hl.2.2 (0, .ref b) List.mem_cons_self
    rw [this]
    show some (Slot.val (.ref b)) = some (Slot.val (.ref (loc G (108, 0))))
    rw [hb8]
  | 1, hx => simp at hx
  | 2, hx => simp at hx
  | 3, hx => simp at hx
  | j + 4, hx => simp at hx
