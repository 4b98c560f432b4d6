def tree_add_l14 (v1 : Option Nat) (v2 : Int64) (v4 : Int32) (h : Hp) : Int32 → Option (((Option Nat × Hp) ⊕ Int32) ⊕ Int32)
  | a7 =>
    if (24 : Int32) ≤ a7 then
      some (.inl (.inr a7))
    else
      guardB a7 24 <|
      if (gI h (5, a7.toNatClampNeg) 2) = 0 then
        guardZ v4 <|
        some (.inl (.inl ((some a7.toNatClampNeg), (sI (sL (sR (sI h (5, a7.toNatClampNeg) 2 (1 : Int32)) (5, a7.toNatClampNeg) 5 v1) (5, a7.toNatClampNeg) 4 v2) (5, a7.toNatClampNeg) 3 v4))))
      else
        some (.inr (a7 + (1 : Int32)))
def tree_add (p1 : Option Nat) (p2 : Int64) (p4 : Int32) (h : Hp) : Option (Option Nat × Hp) :=
  (iter (tree_add_l14 p1 p2 p4 h) FU (0 : Int32)).bind fun t5 =>
  t5.elim (fun r => some r) fun ut5 =>
  some (none, h)
set_option maxHeartbeats 2000000 in
set_option maxRecDepth 20000 in
theorem c_tree_add (l : Launch) (p1 : Option Nat) (p2 : Int64) (p4 : Int32) (h : Hp) (r : Option Nat) (h' : Hp)  (E : tree_add p1 p2 p4 h = some (r, h')) : Ctr l yX10_add cX10_add 9 (some (.object "RootedFerry$Node")) 0 0 0 0 true [aA 3 (some 0), aA 5 p1, aL p2, aI p4] h (some (aA 5 r)) h' := by
  rw [tree_add] at E
  refine Ctr.of (ls0 := [some (aA 3 (some 0)), some (aA 5 p1), some (aL p2), none, some (aI p4), none, none, none, none]) (by decide +kernel) (Nat.le_of_ble_eq_true rfl) rfl ?_
  intro G p e s m args below meth c C hr hlk hnm
  refine v_aload_n C (pc' := 1) dX10_add_0 rfl rfl rfl ?_
  refine v_getF C (pc' := 4) rfl fl_X10_11 rfl rfl (t2 := 4) rfl (j := 0) rfl u0_3 dX10_add_1 rfl ?_
  refine v_astore5 C (pc' := 6) dX10_add_4 (by decide) rfl rfl ?_
  refine v_aload C (pc' := 8) dX10_add_6 rfl rfl ?_
  refine v_alen C (pc' := 9) (t := 4) rfl (by decide) lv0_4 (v := (24 : Int32)) (by decide) dX10_add_8 rfl ?_
  refine v_istore6 C (pc' := 11) dX10_add_9 (by decide) rfl rfl ?_
  refine v_iconst C (pc' := 12) dX10_add_11 (v := (0 : Int32)) (by decide) rfl ?_
  refine v_istore7 C (pc' := 14) dX10_add_12 (by decide) rfl rfl ?_
  obtain ⟨t1, It1, E⟩ := bind_some E
  have Kt1 : ∀ ut1, t1 = .inr ut1 → V true G p l e { frames := 0, cells := 0, slots := 0, locals := 0 } s m args below meth c 9 (MQ below (QcA true G (some (aA 5 r)) h') args s 0 0 (A_ G)) h 0 0 70 [some (aA 3 (some 0)), some (aA 5 p1), some (aL p2), none, some (aI p4), some (aA 4 (some 0)), some (aI (24 : Int32)), some (aI ut1), none] [] := by
    intro ut1 hu
    rw [hu] at E
    simp only [Sum.elim_inr] at E
    refine v_null C (pc' := 71) (t := 5) dX10_add_70 rfl ?_
    cases E
    exact v_reta C hr (Or.inl ⟨_, rfl⟩) hlk dX10_add_71
  refine iter_V (P := fun st1 : Int32 => V true G p l e { frames := 0, cells := 0, slots := 0, locals := 0 } s m args below meth c 9 (MQ below (QcA true G (some (aA 5 r)) h') args s 0 0 (A_ G)) h 0 0 14 [some (aA 3 (some 0)), some (aA 5 p1), some (aL p2), none, some (aI p4), some (aA 4 (some 0)), some (aI (24 : Int32)), some (aI st1), none] []) ?_ _ _ It1
  intro a7t1 ot1 Lt1 kxt1 kst1
  rw [tree_add_l14] at Lt1
  show V true G p l e { frames := 0, cells := 0, slots := 0, locals := 0 } s m args below meth c 9 (MQ below (QcA true G (some (aA 5 r)) h') args s 0 0 (A_ G)) h 0 0 14 [some (aA 3 (some 0)), some (aA 5 p1), some (aL p2), none, some (aI p4), some (aA 4 (some 0)), some (aI (24 : Int32)), some (aI a7t1), none] []
  refine v_iload C (pc' := 16) dX10_add_14 rfl rfl ?_
  refine v_iload C (pc' := 18) dX10_add_16 rfl rfl ?_
  refine v_icmp_ge C (tg := 70) (pc' := 21) dX10_add_18 (by decide) rfl (fun q2 => ?_) (fun q2 => ?_)
  · rw [if_pos q2] at Lt1
    cases Lt1
    have z := kxt1 _ rfl
    exact Kt1 _ z.symm
  · rw [if_neg q2] at Lt1
    refine v_aload C (pc' := 23) dX10_add_21 rfl rfl ?_
    refine v_iload C (pc' := 25) dX10_add_23 rfl rfl ?_
    obtain ⟨g3, Lt1⟩ := guardB_some Lt1
    refine v_aaldF C (pc' := 26) rfl g3 dX10_add_25 rfl ?_
    refine v_astore8 C (pc' := 28) dX10_add_26 (by decide) rfl rfl ?_
    refine v_aload C (pc' := 30) dX10_add_28 rfl rfl ?_
    refine v_getI C (pc' := 33) fl_X10_16 rfl (Or.inr rfl) (lvq_nd (inB_lt g3)) dX10_add_30 rfl ?_
    refine v_if_ne C (tg := 64) (pc' := 36) dX10_add_33 (by decide) rfl (fun q4 => ?_) (fun q4 => ?_)
    · rw [if_neg q4] at Lt1
      refine v_iinc7 C (pc' := 67) dX10_add_64 (v := (a7t1 + (1 : Int32))) (by rw [show Int32.ofInt 1 = (1 : Int32) by decide]) (by decide) rfl rfl ?_
      refine v_goto C (pc' := 14) dX10_add_67 (by decide) ?_
      cases Lt1
      exact V.ls (ms := [true, true, true, false, true, true, true, true, false]) rfl (kst1 _ rfl)
    · rw [if_pos q4] at Lt1
      refine v_aload C (pc' := 38) dX10_add_36 rfl rfl ?_
      refine v_iconst C (pc' := 39) dX10_add_38 (v := (1 : Int32)) (by decide) rfl ?_
      refine v_putZ C (pc' := 42) fp_X10_16 rfl rfl (lvq_nd (inB_lt g3)) dX10_add_39 rfl (Or.inr rfl) ?_
      refine v_aload C (pc' := 44) dX10_add_42 rfl rfl ?_
      refine v_aload_n C (pc' := 45) dX10_add_44 rfl rfl rfl ?_
      refine v_putR C (pc' := 48) fp_X10_20 rfl rfl (lvq_nd (inB_lt g3)) dX10_add_45 rfl (t2 := 5) rfl (fun _ => ⟨rfl, by decide⟩) ?_
      refine v_aload C (pc' := 50) dX10_add_48 rfl rfl ?_
      refine v_lload_n C (pc' := 51) dX10_add_50 rfl rfl rfl ?_
      refine v_putL C (pc' := 54) fp_X10_24 rfl rfl (lvq_nd (inB_lt g3)) dX10_add_51 rfl ?_
      refine v_aload C (pc' := 56) dX10_add_54 rfl rfl ?_
      refine v_iload C (pc' := 58) dX10_add_56 rfl rfl ?_
      obtain ⟨z5, Lt1⟩ := guardZ_some Lt1
      refine v_putZ C (pc' := 61) fp_X10_28 rfl rfl (lvq_nd (inB_lt g3)) dX10_add_58 rfl z5 ?_
      refine v_aload C (pc' := 63) dX10_add_61 rfl rfl ?_
      cases Lt1
      have z := kxt1 _ rfl
      rw [← z] at E
      simp only [Sum.elim_inl] at E
      cases E
      exact v_reta C hr (Or.inl ⟨_, rfl⟩) hlk dX10_add_63

def tree_child_l14 (v1 : Option Nat) (v2 : Int64) (h : Hp) : Int32 → Option (((Option Nat) ⊕ Int32) ⊕ Int32)
  | a6 =>
    if (24 : Int32) ≤ a6 then
      some (.inl (.inr a6))
    else
      guardB a6 24 <|
      if (gI h (5, a6.toNatClampNeg) 2) = 0 then
        some (.inr (a6 + (1 : Int32)))
      else
        if (gR h (5, a6.toNatClampNeg) 5) = v1 then
          if (gL h (5, a6.toNatClampNeg) 4) = v2 then
            some (.inl (.inl (some a6.toNatClampNeg)))
          else
            some (.inr (a6 + (1 : Int32)))
        else
          some (.inr (a6 + (1 : Int32)))
def tree_child (p1 : Option Nat) (p2 : Int64) (h : Hp) : Option (Option Nat) :=
  (iter (tree_child_l14 p1 p2 h) FU (0 : Int32)).bind fun t6 =>
  t6.elim (fun r => some r) fun ut6 =>
  some none
set_option maxHeartbeats 2000000 in
set_option maxRecDepth 20000 in
theorem c_tree_child (l : Launch) (p1 : Option Nat) (p2 : Int64) (h : Hp) (r : Option Nat)  (E : tree_child p1 p2 h = some r) : Ctr l yX10_child cX10_child 8 (some (.object "RootedFerry$Node")) 0 0 0 0 true [aA 3 (some 0), aA 5 p1, aL p2] h (some (aA 5 r)) h := by
  rw [tree_child] at E
  refine Ctr.of (ls0 := [some (aA 3 (some 0)), some (aA 5 p1), some (aL p2), none, none, none, none, none]) (by decide +kernel) (Nat.le_of_ble_eq_true rfl) rfl ?_
  intro G p e s m args below meth c C hr hlk hnm
  refine v_aload_n C (pc' := 1) dX10_child_0 rfl rfl rfl ?_
  refine v_getF C (pc' := 4) rfl fl_X10_11 rfl rfl (t2 := 4) rfl (j := 0) rfl u0_3 dX10_child_1 rfl ?_
  refine v_astore4 C (pc' := 6) dX10_child_4 (by decide) rfl rfl ?_
  refine v_aload C (pc' := 8) dX10_child_6 rfl rfl ?_
  refine v_alen C (pc' := 9) (t := 4) rfl (by decide) lv0_4 (v := (24 : Int32)) (by decide) dX10_child_8 rfl ?_
  refine v_istore5 C (pc' := 11) dX10_child_9 (by decide) rfl rfl ?_
  refine v_iconst C (pc' := 12) dX10_child_11 (v := (0 : Int32)) (by decide) rfl ?_
  refine v_istore6 C (pc' := 14) dX10_child_12 (by decide) rfl rfl ?_
  obtain ⟨t1, It1, E⟩ := bind_some E
  have Kt1 : ∀ ut1, t1 = .inr ut1 → V true G p l e { frames := 0, cells := 0, slots := 0, locals := 0 } s m args below meth c 8 (MQ below (QcA true G (some (aA 5 r)) h) args s 0 0 (A_ G)) h 0 0 64 [some (aA 3 (some 0)), some (aA 5 p1), some (aL p2), none, some (aA 4 (some 0)), some (aI (24 : Int32)), some (aI ut1), none] [] := by
    intro ut1 hu
    rw [hu] at E
    simp only [Sum.elim_inr] at E
    refine v_null C (pc' := 65) (t := 5) dX10_child_64 rfl ?_
    cases E
    exact v_reta C hr (Or.inl ⟨_, rfl⟩) hlk dX10_child_65
  refine iter_V (P := fun st1 : Int32 => V true G p l e { frames := 0, cells := 0, slots := 0, locals := 0 } s m args below meth c 8 (MQ below (QcA true G (some (aA 5 r)) h) args s 0 0 (A_ G)) h 0 0 14 [some (aA 3 (some 0)), some (aA 5 p1), some (aL p2), none, some (aA 4 (some 0)), some (aI (24 : Int32)), some (aI st1), none] []) ?_ _ _ It1
  intro a6t1 ot1 Lt1 kxt1 kst1
  rw [tree_child_l14] at Lt1
  show V true G p l e { frames := 0, cells := 0, slots := 0, locals := 0 } s m args below meth c 8 (MQ below (QcA true G (some (aA 5 r)) h) args s 0 0 (A_ G)) h 0 0 14 [some (aA 3 (some 0)), some (aA 5 p1), some (aL p2), none, some (aA 4 (some 0)), some (aI (24 : Int32)), some (aI a6t1), none] []
  refine v_iload C (pc' := 16) dX10_child_14 rfl rfl ?_
  refine v_iload C (pc' := 18) dX10_child_16 rfl rfl ?_
  refine v_icmp_ge C (tg := 64) (pc' := 21) dX10_child_18 (by decide) rfl (fun q2 => ?_) (fun q2 => ?_)
  · rw [if_pos q2] at Lt1
    cases Lt1
    have z := kxt1 _ rfl
    exact Kt1 _ z.symm
  · rw [if_neg q2] at Lt1
    refine v_aload C (pc' := 23) dX10_child_21 rfl rfl ?_
    refine v_iload C (pc' := 25) dX10_child_23 rfl rfl ?_
    obtain ⟨g3, Lt1⟩ := guardB_some Lt1
    refine v_aaldF C (pc' := 26) rfl g3 dX10_child_25 rfl ?_
    refine v_astore7 C (pc' := 28) dX10_child_26 (by decide) rfl rfl ?_
    refine v_aload C (pc' := 30) dX10_child_28 rfl rfl ?_
    refine v_getI C (pc' := 33) fl_X10_16 rfl (Or.inr rfl) (lvq_nd (inB_lt g3)) dX10_child_30 rfl ?_
    refine v_if_eq C (tg := 58) (pc' := 36) dX10_child_33 (by decide) rfl (fun q4 => ?_) (fun q4 => ?_)
    · rw [if_pos q4] at Lt1
      refine v_iinc6 C (pc' := 61) dX10_child_58 (v := (a6t1 + (1 : Int32))) (by rw [show Int32.ofInt 1 = (1 : Int32) by decide]) (by decide) rfl rfl ?_
      refine v_goto C (pc' := 14) dX10_child_61 (by decide) ?_
      cases Lt1
      exact V.ls (ms := [true, true, true, false, true, true, true, false]) rfl (kst1 _ rfl)
    · rw [if_neg q4] at Lt1
      refine v_aload C (pc' := 38) dX10_child_36 rfl rfl ?_
      refine v_getR C (pc' := 41) fl_X10_20 rfl rfl (t2 := 5) rfl (lvq_nd (inB_lt g3)) dX10_child_38 rfl ?_
      refine v_aload_n C (pc' := 42) dX10_child_41 rfl rfl rfl ?_
      refine v_acmp_ne C (tg := 58) (pc' := 45) (inj5 G) dX10_child_42 (by decide) rfl (fun q5 => ?_) (fun q5 => ?_)
      · rw [if_neg q5] at Lt1
        refine v_iinc6 C (pc' := 61) dX10_child_58 (v := (a6t1 + (1 : Int32))) (by rw [show Int32.ofInt 1 = (1 : Int32) by decide]) (by decide) rfl rfl ?_
        refine v_goto C (pc' := 14) dX10_child_61 (by decide) ?_
        cases Lt1
        exact V.ls (ms := [true, true, true, false, true, true, true, false]) rfl (kst1 _ rfl)
      · rw [if_pos q5] at Lt1
        refine v_aload C (pc' := 47) dX10_child_45 rfl rfl ?_
        refine v_getL C (pc' := 50) fl_X10_24 rfl rfl (lvq_nd (inB_lt g3)) dX10_child_47 rfl ?_
        refine v_lload_n C (pc' := 51) dX10_child_50 rfl rfl rfl ?_
        refine v_lcmp C (pc' := 52) dX10_child_51 rfl ?_
        refine v_if_ne C (tg := 58) (pc' := 55) dX10_child_52 (by decide) rfl (fun q6 => ?_) (fun q6 => ?_)
        · rw [lgc_eq] at q6
          rw [if_neg q6] at Lt1
          refine v_iinc6 C (pc' := 61) dX10_child_58 (v := (a6t1 + (1 : Int32))) (by rw [show Int32.ofInt 1 = (1 : Int32) by decide]) (by decide) rfl rfl ?_
          refine v_goto C (pc' := 14) dX10_child_61 (by decide) ?_
          cases Lt1
          exact V.ls (ms := [true, true, true, false, true, true, true, false]) rfl (kst1 _ rfl)
        · rw [lgc_eq] at q6
          rw [if_pos q6] at Lt1
          refine v_aload C (pc' := 57) dX10_child_55 rfl rfl ?_
          cases Lt1
          have z := kxt1 _ rfl
          rw [← z] at E
          simp only [Sum.elim_inl] at E
          cases E
          exact v_reta C hr (Or.inl ⟨_, rfl⟩) hlk dX10_child_57

def tree_countBytes_l13  (h : Hp) : Int32 × Int32 → Option ((Int32 × Int32) ⊕ (Int32 × Int32))
  | (a1, a4) =>
    if (24 : Int32) ≤ a4 then
      some (.inl (a1, a4))
    else
      guardB a4 24 <|
      (if (gI h (5, a4.toNatClampNeg) 2) = 0 then
        some a1
      else
        some (a1 + (gI h (5, a4.toNatClampNeg) 1))).bind fun t4 =>
      some (.inr (t4, (a4 + (1 : Int32))))
def tree_countBytes  (h : Hp) : Option Int32 :=
  (iter (tree_countBytes_l13 h) FU ((0 : Int32), (0 : Int32))).bind fun t5 =>
  some t5.1
set_option maxHeartbeats 2000000 in
set_option maxRecDepth 20000 in
theorem c_tree_countBytes (l : Launch)  (h : Hp) (r : Int32)  (E : tree_countBytes  h = some r) : Ctr l yX10_countBytes cX10_countBytes 6 (some .int) 0 0 0 0 true [aA 3 (some 0)] h (some (aI r)) h := by
  rw [tree_countBytes] at E
  refine Ctr.of (ls0 := [some (aA 3 (some 0)), none, none, none, none, none]) (by decide +kernel) (Nat.le_of_ble_eq_true rfl) rfl ?_
  intro G p e s m args below meth c C hr hlk hnm
  refine v_iconst C (pc' := 1) dX10_countBytes_0 (v := (0 : Int32)) (by decide) rfl ?_
  refine v_istore1 C (pc' := 2) dX10_countBytes_1 (by decide) rfl rfl ?_
  refine v_aload_n C (pc' := 3) dX10_countBytes_2 rfl rfl rfl ?_
  refine v_getF C (pc' := 6) rfl fl_X10_11 rfl rfl (t2 := 4) rfl (j := 0) rfl u0_3 dX10_countBytes_3 rfl ?_
  refine v_astore2 C (pc' := 7) dX10_countBytes_6 (by decide) rfl rfl ?_
  refine v_aload_n C (pc' := 8) dX10_countBytes_7 rfl rfl rfl ?_
  refine v_alen C (pc' := 9) (t := 4) rfl (by decide) lv0_4 (v := (24 : Int32)) (by decide) dX10_countBytes_8 rfl ?_
  refine v_istore3 C (pc' := 10) dX10_countBytes_9 (by decide) rfl rfl ?_
  refine v_iconst C (pc' := 11) dX10_countBytes_10 (v := (0 : Int32)) (by decide) rfl ?_
  refine v_istore4 C (pc' := 13) dX10_countBytes_11 (by decide) rfl rfl ?_
  obtain ⟨t1, It1, E⟩ := bind_some E
  have Kt1 : V true G p l e { frames := 0, cells := 0, slots := 0, locals := 0 } s m args below meth c 6 (MQ below (QcA true G (some (aI r)) h) args s 0 0 (A_ G)) h 0 0 47 [some (aA 3 (some 0)), some (aI t1.1), some (aA 4 (some 0)), some (aI (24 : Int32)), some (aI t1.2), none] [] := by
    refine v_iload_n C (pc' := 48) dX10_countBytes_47 rfl rfl rfl ?_
    cases E
    exact v_reti C hr hlk dX10_countBytes_48
  refine iter_V (P := fun st1 : Int32 × Int32 => V true G p l e { frames := 0, cells := 0, slots := 0, locals := 0 } s m args below meth c 6 (MQ below (QcA true G (some (aI r)) h) args s 0 0 (A_ G)) h 0 0 13 [some (aA 3 (some 0)), some (aI st1.1), some (aA 4 (some 0)), some (aI (24 : Int32)), some (aI st1.2), none] []) ?_ _ _ It1
  rintro ⟨a1t1, a4t1⟩ ot1 Lt1 kxt1 kst1
  rw [tree_countBytes_l13] at Lt1
  show V true G p l e { frames := 0, cells := 0, slots := 0, locals := 0 } s m args below meth c 6 (MQ below (QcA true G (some (aI r)) h) args s 0 0 (A_ G)) h 0 0 13 [some (aA 3 (some 0)), some (aI a1t1), some (aA 4 (some 0)), some (aI (24 : Int32)), some (aI a4t1), none] []
  refine v_iload C (pc' := 15) dX10_countBytes_13 rfl rfl ?_
  refine v_iload_n C (pc' := 16) dX10_countBytes_15 rfl rfl rfl ?_
  refine v_icmp_ge C (tg := 47) (pc' := 19) dX10_countBytes_16 (by decide) rfl (fun q2 => ?_) (fun q2 => ?_)
  · rw [if_pos q2] at Lt1
    cases Lt1
    have z := kxt1 _ rfl
    subst z
    exact Kt1
  · rw [if_neg q2] at Lt1
    refine v_aload_n C (pc' := 20) dX10_countBytes_19 rfl rfl rfl ?_
    refine v_iload C (pc' := 22) dX10_countBytes_20 rfl rfl ?_
    obtain ⟨g3, Lt1⟩ := guardB_some Lt1
    refine v_aaldF C (pc' := 23) rfl g3 dX10_countBytes_22 rfl ?_
    refine v_astore5 C (pc' := 25) dX10_countBytes_23 (by decide) rfl rfl ?_
    refine v_aload C (pc' := 27) dX10_countBytes_25 rfl rfl ?_
    refine v_getI C (pc' := 30) fl_X10_16 rfl (Or.inr rfl) (lvq_nd (inB_lt g3)) dX10_countBytes_27 rfl ?_
    obtain ⟨t5, At5, Lt1⟩ := bind_some Lt1
    have Kt5 : V true G p l e { frames := 0, cells := 0, slots := 0, locals := 0 } s m args below meth c 6 (MQ below (QcA true G (some (aI r)) h) args s 0 0 (A_ G)) h 0 0 41 [some (aA 3 (some 0)), some (aI t5), some (aA 4 (some 0)), some (aI (24 : Int32)), some (aI a4t1), some (aA 5 (some a4t1.toNatClampNeg))] [] := by
      refine v_iinc4 C (pc' := 44) dX10_countBytes_41 (v := (a4t1 + (1 : Int32))) (by rw [show Int32.ofInt 1 = (1 : Int32) by decide]) (by decide) rfl rfl ?_
      refine v_goto C (pc' := 13) dX10_countBytes_44 (by decide) ?_
      cases Lt1
      exact V.ls (ms := [true, true, true, true, true, false]) rfl (kst1 _ rfl)
    refine v_if_eq C (tg := 41) (pc' := 33) dX10_countBytes_30 (by decide) rfl (fun q4 => ?_) (fun q4 => ?_)
    · rw [if_pos q4] at At5
      cases At5
      exact Kt5
    · rw [if_neg q4] at At5
      refine v_iload_n C (pc' := 34) dX10_countBytes_33 rfl rfl rfl ?_
      refine v_aload C (pc' := 36) dX10_countBytes_34 rfl rfl ?_
      refine v_getI C (pc' := 39) fl_X10_35 rfl (Or.inl rfl) (lvq_nd (inB_lt g3)) dX10_countBytes_36 rfl ?_
      refine v_iadd C (pc' := 40) dX10_countBytes_39 rfl ?_
      refine v_istore1 C (pc' := 41) dX10_countBytes_40 (by decide) rfl rfl ?_
      cases At5
      exact Kt5

def tree_countNodes_l13  (h : Hp) : Int32 × Int32 → Option ((Int32 × Int32) ⊕ (Int32 × Int32))
  | (a1, a4) =>
    if (24 : Int32) ≤ a4 then
      some (.inl (a1, a4))
    else
      guardB a4 24 <|
      (if (gI h (5, a4.toNatClampNeg) 2) = 0 then
        some a1
      else
        some (a1 + (1 : Int32))).bind fun t4 =>
      some (.inr (t4, (a4 + (1 : Int32))))
def tree_countNodes  (h : Hp) : Option Int32 :=
  (iter (tree_countNodes_l13 h) FU ((0 : Int32), (0 : Int32))).bind fun t5 =>
  some t5.1
set_option maxHeartbeats 2000000 in
set_option maxRecDepth 20000 in
theorem c_tree_countNodes (l : Launch)  (h : Hp) (r : Int32)  (E : tree_countNodes  h = some r) : Ctr l yX10_countNodes cX10_countNodes 6 (some .int) 0 0 0 0 true [aA 3 (some 0)] h (some (aI r)) h := by
  rw [tree_countNodes] at E
  refine Ctr.of (ls0 := [some (aA 3 (some 0)), none, none, none, none, none]) (by decide +kernel) (Nat.le_of_ble_eq_true rfl) rfl ?_
  intro G p e s m args below meth c C hr hlk hnm
  refine v_iconst C (pc' := 1) dX10_countNodes_0 (v := (0 : Int32)) (by decide) rfl ?_
  refine v_istore1 C (pc' := 2) dX10_countNodes_1 (by decide) rfl rfl ?_
  refine v_aload_n C (pc' := 3) dX10_countNodes_2 rfl rfl rfl ?_
  refine v_getF C (pc' := 6) rfl fl_X10_11 rfl rfl (t2 := 4) rfl (j := 0) rfl u0_3 dX10_countNodes_3 rfl ?_
  refine v_astore2 C (pc' := 7) dX10_countNodes_6 (by decide) rfl rfl ?_
  refine v_aload_n C (pc' := 8) dX10_countNodes_7 rfl rfl rfl ?_
  refine v_alen C (pc' := 9) (t := 4) rfl (by decide) lv0_4 (v := (24 : Int32)) (by decide) dX10_countNodes_8 rfl ?_
  refine v_istore3 C (pc' := 10) dX10_countNodes_9 (by decide) rfl rfl ?_
  refine v_iconst C (pc' := 11) dX10_countNodes_10 (v := (0 : Int32)) (by decide) rfl ?_
  refine v_istore4 C (pc' := 13) dX10_countNodes_11 (by decide) rfl rfl ?_
  obtain ⟨t1, It1, E⟩ := bind_some E
  have Kt1 : V true G p l e { frames := 0, cells := 0, slots := 0, locals := 0 } s m args below meth c 6 (MQ below (QcA true G (some (aI r)) h) args s 0 0 (A_ G)) h 0 0 42 [some (aA 3 (some 0)), some (aI t1.1), some (aA 4 (some 0)), some (aI (24 : Int32)), some (aI t1.2), none] [] := by
    refine v_iload_n C (pc' := 43) dX10_countNodes_42 rfl rfl rfl ?_
    cases E
    exact v_reti C hr hlk dX10_countNodes_43
  refine iter_V (P := fun st1 : Int32 × Int32 => V true G p l e { frames := 0, cells := 0, slots := 0, locals := 0 } s m args below meth c 6 (MQ below (QcA true G (some (aI r)) h) args s 0 0 (A_ G)) h 0 0 13 [some (aA 3 (some 0)), some (aI st1.1), some (aA 4 (some 0)), some (aI (24 : Int32)), some (aI st1.2), none] []) ?_ _ _ It1
  rintro ⟨a1t1, a4t1⟩ ot1 Lt1 kxt1 kst1
  rw [tree_countNodes_l13] at Lt1
  show V true G p l e { frames := 0, cells := 0, slots := 0, locals := 0 } s m args below meth c 6 (MQ below (QcA true G (some (aI r)) h) args s 0 0 (A_ G)) h 0 0 13 [some (aA 3 (some 0)), some (aI a1t1), some (aA 4 (some 0)), some (aI (24 : Int32)), some (aI a4t1), none] []
  refine v_iload C (pc' := 15) dX10_countNodes_13 rfl rfl ?_
  refine v_iload_n C (pc' := 16) dX10_countNodes_15 rfl rfl rfl ?_
  refine v_icmp_ge C (tg := 42) (pc' := 19) dX10_countNodes_16 (by decide) rfl (fun q2 => ?_) (fun q2 => ?_)
  · rw [if_pos q2] at Lt1
    cases Lt1
    have z := kxt1 _ rfl
    subst z
    exact Kt1
  · rw [if_neg q2] at Lt1
    refine v_aload_n C (pc' := 20) dX10_countNodes_19 rfl rfl rfl ?_
    refine v_iload C (pc' := 22) dX10_countNodes_20 rfl rfl ?_
    obtain ⟨g3, Lt1⟩ := guardB_some Lt1
    refine v_aaldF C (pc' := 23) rfl g3 dX10_countNodes_22 rfl ?_
    refine v_astore5 C (pc' := 25) dX10_countNodes_23 (by decide) rfl rfl ?_
    refine v_aload C (pc' := 27) dX10_countNodes_25 rfl rfl ?_
    refine v_getI C (pc' := 30) fl_X10_16 rfl (Or.inr rfl) (lvq_nd (inB_lt g3)) dX10_countNodes_27 rfl ?_
    obtain ⟨t5, At5, Lt1⟩ := bind_some Lt1
    have Kt5 : V true G p l e { frames := 0, cells := 0, slots := 0, locals := 0 } s m args below meth c 6 (MQ below (QcA true G (some (aI r)) h) args s 0 0 (A_ G)) h 0 0 36 [some (aA 3 (some 0)), some (aI t5), some (aA 4 (some 0)), some (aI (24 : Int32)), some (aI a4t1), some (aA 5 (some a4t1.toNatClampNeg))] [] := by
      refine v_iinc4 C (pc' := 39) dX10_countNodes_36 (v := (a4t1 + (1 : Int32))) (by rw [show Int32.ofInt 1 = (1 : Int32) by decide]) (by decide) rfl rfl ?_
      refine v_goto C (pc' := 13) dX10_countNodes_39 (by decide) ?_
      cases Lt1
      exact V.ls (ms := [true, true, true, true, true, false]) rfl (kst1 _ rfl)
    refine v_if_eq C (tg := 36) (pc' := 33) dX10_countNodes_30 (by decide) rfl (fun q4 => ?_) (fun q4 => ?_)
    · rw [if_pos q4] at At5
      cases At5
      exact Kt5
    · rw [if_neg q4] at At5
      refine v_iinc1 C (pc' := 36) dX10_countNodes_33 (v := (a1t1 + (1 : Int32))) (by rw [show Int32.ofInt 1 = (1 : Int32) by decide]) (by decide) rfl rfl ?_
      cases At5
      exact Kt5

def tree_nextName_l17 (v1 : Option Nat) (v2 : Int64) (h : Hp) : Int64 × Int32 → Option ((Int64 × Int32) ⊕ (Int64 × Int32))
  | (a4, a8) =>
    if (24 : Int32) ≤ a8 then
      some (.inl (a4, a8))
    else
      guardB a8 24 <|
      (if (gI h (5, a8.toNatClampNeg) 2) = 0 then
        some a4
      else
        if (gR h (5, a8.toNatClampNeg) 5) = v1 then
          if (gL h (5, a8.toNatClampNeg) 4) ≤ v2 then
            some a4
          else
            if a4 = (0 : Int64) then
              some (gL h (5, a8.toNatClampNeg) 4)
            else
              if a4 ≤ (gL h (5, a8.toNatClampNeg) 4) then
                some a4
              else
                some (gL h (5, a8.toNatClampNeg) 4)
        else
          some a4).bind fun t4 =>
      some (.inr (t4, (a8 + (1 : Int32))))
def tree_nextName (p1 : Option Nat) (p2 : Int64) (h : Hp) : Option Int64 :=
  (iter (tree_nextName_l17 p1 p2 h) FU ((0 : Int64), (0 : Int32))).bind fun t9 =>
  some t9.1
set_option maxHeartbeats 2000000 in
set_option maxRecDepth 20000 in
theorem c_tree_nextName (l : Launch) (p1 : Option Nat) (p2 : Int64) (h : Hp) (r : Int64)  (E : tree_nextName p1 p2 h = some r) : Ctr l yX10_nextName cX10_nextName 10 (some .long) 0 0 0 0 true [aA 3 (some 0), aA 5 p1, aL p2] h (some (aL r)) h := by
  rw [tree_nextName] at E
  refine Ctr.of (ls0 := [some (aA 3 (some 0)), some (aA 5 p1), some (aL p2), none, none, none, none, none, none, none]) (by decide +kernel) (Nat.le_of_ble_eq_true rfl) rfl ?_
  intro G p e s m args below meth c C hr hlk hnm
  refine v_lconst C (pc' := 1) dX10_nextName_0 (v := (0 : Int64)) (by decide) rfl ?_
  refine v_lstore4 C (pc' := 3) dX10_nextName_1 (by decide) rfl rfl ?_
  refine v_aload_n C (pc' := 4) dX10_nextName_3 rfl rfl rfl ?_
  refine v_getF C (pc' := 7) rfl fl_X10_11 rfl rfl (t2 := 4) rfl (j := 0) rfl u0_3 dX10_nextName_4 rfl ?_
  refine v_astore6 C (pc' := 9) dX10_nextName_7 (by decide) rfl rfl ?_
  refine v_aload C (pc' := 11) dX10_nextName_9 rfl rfl ?_
  refine v_alen C (pc' := 12) (t := 4) rfl (by decide) lv0_4 (v := (24 : Int32)) (by decide) dX10_nextName_11 rfl ?_
  refine v_istore7 C (pc' := 14) dX10_nextName_12 (by decide) rfl rfl ?_
  refine v_iconst C (pc' := 15) dX10_nextName_14 (v := (0 : Int32)) (by decide) rfl ?_
  refine v_istore8 C (pc' := 17) dX10_nextName_15 (by decide) rfl rfl ?_
  obtain ⟨t1, It1, E⟩ := bind_some E
  have Kt1 : V true G p l e { frames := 0, cells := 0, slots := 0, locals := 0 } s m args below meth c 10 (MQ below (QcA true G (some (aL r)) h) args s 0 0 (A_ G)) h 0 0 89 [some (aA 3 (some 0)), some (aA 5 p1), some (aL p2), none, some (aL t1.1), none, some (aA 4 (some 0)), some (aI (24 : Int32)), some (aI t1.2), none] [] := by
    refine v_lload C (pc' := 91) dX10_nextName_89 rfl rfl ?_
    cases E
    exact v_retl C hr hlk dX10_nextName_91
  refine iter_V (P := fun st1 : Int64 × Int32 => V true G p l e { frames := 0, cells := 0, slots := 0, locals := 0 } s m args below meth c 10 (MQ below (QcA true G (some (aL r)) h) args s 0 0 (A_ G)) h 0 0 17 [some (aA 3 (some 0)), some (aA 5 p1), some (aL p2), none, some (aL st1.1), none, some (aA 4 (some 0)), some (aI (24 : Int32)), some (aI st1.2), none] []) ?_ _ _ It1
  rintro ⟨a4t1, a8t1⟩ ot1 Lt1 kxt1 kst1
  rw [tree_nextName_l17] at Lt1
  show V true G p l e { frames := 0, cells := 0, slots := 0, locals := 0 } s m args below meth c 10 (MQ below (QcA true G (some (aL r)) h) args s 0 0 (A_ G)) h 0 0 17 [some (aA 3 (some 0)), some (aA 5 p1), some (aL p2), none, some (aL a4t1), none, some (aA 4 (some 0)), some (aI (24 : Int32)), some (aI a8t1), none] []
  refine v_iload C (pc' := 19) dX10_nextName_17 rfl rfl ?_
  refine v_iload C (pc' := 21) dX10_nextName_19 rfl rfl ?_
  refine v_icmp_ge C (tg := 89) (pc' := 24) dX10_nextName_21 (by decide) rfl (fun q2 => ?_) (fun q2 => ?_)
  · rw [if_pos q2] at Lt1
    cases Lt1
    have z := kxt1 _ rfl
    subst z
    exact Kt1
  · rw [if_neg q2] at Lt1
    refine v_aload C (pc' := 26) dX10_nextName_24 rfl rfl ?_
    refine v_iload C (pc' := 28) dX10_nextName_26 rfl rfl ?_
    obtain ⟨g3, Lt1⟩ := guardB_some Lt1
    refine v_aaldF C (pc' := 29) rfl g3 dX10_nextName_28 rfl ?_
    refine v_astore9 C (pc' := 31) dX10_nextName_29 (by decide) rfl rfl ?_
    refine v_aload C (pc' := 33) dX10_nextName_31 rfl rfl ?_
    refine v_getI C (pc' := 36) fl_X10_16 rfl (Or.inr rfl) (lvq_nd (inB_lt g3)) dX10_nextName_33 rfl ?_
    obtain ⟨t5, At5, Lt1⟩ := bind_some Lt1
    have Kt5 : V true G p l e { frames := 0, cells := 0, slots := 0, locals := 0 } s m args below meth c 10 (MQ below (QcA true G (some (aL r)) h) args s 0 0 (A_ G)) h 0 0 83 [some (aA 3 (some 0)), some (aA 5 p1), some (aL p2), none, some (aL t5), none, some (aA 4 (some 0)), some (aI (24 : Int32)), some (aI a8t1), some (aA 5 (some a8t1.toNatClampNeg))] [] := by
      refine v_iinc8 C (pc' := 86) dX10_nextName_83 (v := (a8t1 + (1 : Int32))) (by rw [show Int32.ofInt 1 = (1 : Int32) by decide]) (by decide) rfl rfl ?_
      refine v_goto C (pc' := 17) dX10_nextName_86 (by decide) ?_
      cases Lt1
      exact V.ls (ms := [true, true, true, false, true, false, true, true, true, false]) rfl (kst1 _ rfl)
    refine v_if_eq C (tg := 83) (pc' := 39) dX10_nextName_36 (by decide) rfl (fun q4 => ?_) (fun q4 => ?_)
    · rw [if_pos q4] at At5
      cases At5
      exact Kt5
    · rw [if_neg q4] at At5
      refine v_aload C (pc' := 41) dX10_nextName_39 rfl rfl ?_
      refine v_getR C (pc' := 44) fl_X10_20 rfl rfl (t2 := 5) rfl (lvq_nd (inB_lt g3)) dX10_nextName_41 rfl ?_
      refine v_aload_n C (pc' := 45) dX10_nextName_44 rfl rfl rfl ?_
      refine v_acmp_ne C (tg := 83) (pc' := 48) (inj5 G) dX10_nextName_45 (by decide) rfl (fun q6 => ?_) (fun q6 => ?_)
      · rw [if_neg q6] at At5
        cases At5
        exact Kt5
      · rw [if_pos q6] at At5
        refine v_aload C (pc' := 50) dX10_nextName_48 rfl rfl ?_
        refine v_getL C (pc' := 53) fl_X10_24 rfl rfl (lvq_nd (inB_lt g3)) dX10_nextName_50 rfl ?_
        refine v_lload_n C (pc' := 54) dX10_nextName_53 rfl rfl rfl ?_
        refine v_lcmp C (pc' := 55) dX10_nextName_54 rfl ?_
        refine v_if_le C (tg := 83) (pc' := 58) dX10_nextName_55 (by decide) rfl (fun q7 => ?_) (fun q7 => ?_)
        · rw [lgc_le] at q7
          rw [if_pos q7] at At5
          cases At5
          exact Kt5
        · rw [lgc_le] at q7
          rw [if_neg q7] at At5
          refine v_lload C (pc' := 60) dX10_nextName_58 rfl rfl ?_
          refine v_lconst C (pc' := 61) dX10_nextName_60 (v := (0 : Int64)) (by decide) rfl ?_
          refine v_lcmp C (pc' := 62) dX10_nextName_61 rfl ?_
          refine v_if_eq C (tg := 76) (pc' := 65) dX10_nextName_62 (by decide) rfl (fun q8 => ?_) (fun q8 => ?_)
          · rw [lgc_eq] at q8
            rw [if_pos q8] at At5
            refine v_aload C (pc' := 78) dX10_nextName_76 rfl rfl ?_
            refine v_getL C (pc' := 81) fl_X10_24 rfl rfl (lvq_nd (inB_lt g3)) dX10_nextName_78 rfl ?_
            refine v_lstore4 C (pc' := 83) dX10_nextName_81 (by decide) rfl rfl ?_
            cases At5
            exact Kt5
          · rw [lgc_eq] at q8
            rw [if_neg q8] at At5
            refine v_aload C (pc' := 67) dX10_nextName_65 rfl rfl ?_
            refine v_getL C (pc' := 70) fl_X10_24 rfl rfl (lvq_nd (inB_lt g3)) dX10_nextName_67 rfl ?_
            refine v_lload C (pc' := 72) dX10_nextName_70 rfl rfl ?_
            refine v_lcmp C (pc' := 73) dX10_nextName_72 rfl ?_
            refine v_if_ge C (tg := 83) (pc' := 76) dX10_nextName_73 (by decide) rfl (fun q9 => ?_) (fun q9 => ?_)
            · rw [lgc_ge] at q9
              rw [if_pos q9] at At5
              cases At5
              exact Kt5
            · rw [lgc_ge] at q9
              rw [if_neg q9] at At5
              refine v_aload C (pc' := 78) dX10_nextName_76 rfl rfl ?_
              refine v_getL C (pc' := 81) fl_X10_24 rfl rfl (lvq_nd (inB_lt g3)) dX10_nextName_78 rfl ?_
              refine v_lstore4 C (pc' := 83) dX10_nextName_81 (by decide) rfl rfl ?_
              cases At5
              exact Kt5

def tree_isEmpty (p1 : Option Nat) (h : Hp) : Option Int32 :=
  (tree_nextName p1 (0 : Int64) h).bind fun y1 =>
  (if y1 = (0 : Int64) then
    some (1 : Int32)
  else
    some (0 : Int32)).bind fun t3 =>
  guardZ t3 <|
  some t3
set_option maxHeartbeats 2000000 in
set_option maxRecDepth 20000 in
theorem c_tree_isEmpty (l : Launch) (p1 : Option Nat) (h : Hp) (r : Int32)  (E : tree_isEmpty p1 h = some r) : Ctr l yX10_isEmpty cX10_isEmpty 2 (some .boolean) 1 29 0 0 true [aA 3 (some 0), aA 5 p1] h (some (aI r)) h := by
  rw [tree_isEmpty] at E
  refine Ctr.of (ls0 := [some (aA 3 (some 0)), some (aA 5 p1)]) (by decide +kernel) (Nat.le_of_ble_eq_true rfl) rfl ?_
  intro G p e s m args below meth c C hr hlk hnm
  refine v_aload_n C (pc' := 1) dX10_isEmpty_0 rfl rfl rfl ?_
  refine v_aload_n C (pc' := 2) dX10_isEmpty_1 rfl rfl rfl ?_
  refine v_lconst C (pc' := 3) dX10_isEmpty_2 (v := (0 : Int64)) (by decide) rfl ?_
  obtain ⟨y1, hy1, E⟩ := bind_some E
  refine v_callV C (pc' := 6) (rest := []) (c_tree_nextName l p1 (0 : Int64) h _ hy1) mv_X10_49 rfl rfl lv0_3 dX10_isEmpty_3 rfl rfl rfl ⟨Nat.le_of_ble_eq_true rfl, Nat.le_of_ble_eq_true rfl⟩ (Nat.le_of_ble_eq_true rfl) ⟨Nat.le_of_ble_eq_true rfl, Nat.le_of_ble_eq_true rfl⟩ ?_
  refine V.st (st' := [aL y1]) rfl ?_
  refine v_lconst C (pc' := 7) dX10_isEmpty_6 (v := (0 : Int64)) (by decide) rfl ?_
  refine v_lcmp C (pc' := 8) dX10_isEmpty_7 rfl ?_
  obtain ⟨t3, At3, E⟩ := bind_some E
  have Kt3 : V true G p l e { frames := 1, cells := 0, slots := 0, locals := 29 } s m args below meth c 2 (MQ below (QcA true G (some (aI r)) h) args s 0 0 (A_ G)) h 0 0 16 [some (aA 3 (some 0)), some (aA 5 p1)] [aI t3] := by
    obtain ⟨z4, E⟩ := guardZ_some E
    cases E
    exact v_retz C hr hlk z4 dX10_isEmpty_16
  refine v_if_ne C (tg := 15) (pc' := 11) dX10_isEmpty_8 (by decide) rfl (fun q2 => ?_) (fun q2 => ?_)
  · rw [lgc_eq] at q2
    rw [if_neg q2] at At3
    refine v_iconst C (pc' := 16) dX10_isEmpty_15 (v := (0 : Int32)) (by decide) rfl ?_
    cases At3
    exact Kt3
  · rw [lgc_eq] at q2
    rw [if_pos q2] at At3
    refine v_iconst C (pc' := 12) dX10_isEmpty_11 (v := (1 : Int32)) (by decide) rfl ?_
    refine v_goto C (pc' := 16) dX10_isEmpty_12 (by decide) ?_
    cases At3
    exact Kt3

def tree_isFull  (h : Hp) : Option Int32 :=
  (tree_countNodes h).bind fun y1 =>
  (if y1 < (24 : Int32) then
    some (0 : Int32)
  else
    some (1 : Int32)).bind fun t3 =>
  guardZ t3 <|
  some t3
set_option maxHeartbeats 2000000 in
set_option maxRecDepth 20000 in
theorem c_tree_isFull (l : Launch)  (h : Hp) (r : Int32)  (E : tree_isFull  h = some r) : Ctr l yX10_isFull cX10_isFull 1 (some .boolean) 1 25 0 0 true [aA 3 (some 0)] h (some (aI r)) h := by
  rw [tree_isFull] at E
  refine Ctr.of (ls0 := [some (aA 3 (some 0))]) (by decide +kernel) (Nat.le_of_ble_eq_true rfl) rfl ?_
  intro G p e s m args below meth c C hr hlk hnm
  refine v_aload_n C (pc' := 1) dX10_isFull_0 rfl rfl rfl ?_
  obtain ⟨y1, hy1, E⟩ := bind_some E
  refine v_callV C (pc' := 4) (rest := []) (c_tree_countNodes l h _ hy1) mv_X10_31 rfl rfl lv0_3 dX10_isFull_1 rfl rfl rfl ⟨Nat.le_of_ble_eq_true rfl, Nat.le_of_ble_eq_true rfl⟩ (Nat.le_of_ble_eq_true rfl) ⟨Nat.le_of_ble_eq_true rfl, Nat.le_of_ble_eq_true rfl⟩ ?_
  refine V.st (st' := [aI y1]) rfl ?_
  refine v_bipush C (pc' := 6) dX10_isFull_4 (v := (24 : Int32)) (by decide) rfl ?_
  obtain ⟨t3, At3, E⟩ := bind_some E
  have Kt3 : V true G p l e { frames := 1, cells := 0, slots := 0, locals := 25 } s m args below meth c 1 (MQ below (QcA true G (some (aI r)) h) args s 0 0 (A_ G)) h 0 0 14 [some (aA 3 (some 0))] [aI t3] := by
    obtain ⟨z4, E⟩ := guardZ_some E
    cases E
    exact v_retz C hr hlk z4 dX10_isFull_14
  refine v_icmp_lt C (tg := 13) (pc' := 9) dX10_isFull_6 (by decide) rfl (fun q2 => ?_) (fun q2 => ?_)
  · rw [if_pos q2] at At3
    refine v_iconst C (pc' := 14) dX10_isFull_13 (v := (0 : Int32)) (by decide) rfl ?_
    cases At3
    exact Kt3
  · rw [if_neg q2] at At3
    refine v_iconst C (pc' := 10) dX10_isFull_9 (v := (1 : Int32)) (by decide) rfl ?_
    refine v_goto C (pc' := 14) dX10_isFull_10 (by decide) ?_
    cases At3
    exact Kt3

def tree_liesIn_l5 (v2 : Option Nat) (h : Hp) : (Option Nat) × Int32 → Option ((Int32 ⊕ ((Option Nat) × Int32)) ⊕ ((Option Nat) × Int32))
  | (a3, a4) =>
    if (24 : Int32) ≤ a4 then
      some (.inl (.inr (a3, a4)))
    else
      if a3 = none then
        some (.inl (.inr (a3, a4)))
      else
        if a3 = v2 then
          some (.inl (.inl (1 : Int32)))
        else
          (nd 24 a3).bind fun x4 =>
          some (.inr ((gR h (5, x4) 5), (a4 + (1 : Int32))))
def tree_liesIn (p1 : Option Nat) (p2 : Option Nat) (h : Hp) : Option Int32 :=
  (iter (tree_liesIn_l5 p2 h) FU (p1, (0 : Int32))).bind fun t5 =>
  t5.elim (fun r => some r) fun ut5 =>
  some (0 : Int32)
set_option maxHeartbeats 2000000 in
set_option maxRecDepth 20000 in
theorem c_tree_liesIn (l : Launch) (p1 : Option Nat) (p2 : Option Nat) (h : Hp) (r : Int32)  (E : tree_liesIn p1 p2 h = some r) : Ctr l yX10_liesIn cX10_liesIn 5 (some .boolean) 0 0 0 0 true [aA 3 (some 0), aA 5 p1, aA 5 p2] h (some (aI r)) h := by
  rw [tree_liesIn] at E
  refine Ctr.of (ls0 := [some (aA 3 (some 0)), some (aA 5 p1), some (aA 5 p2), none, none]) (by decide +kernel) (Nat.le_of_ble_eq_true rfl) rfl ?_
  intro G p e s m args below meth c C hr hlk hnm
  refine v_aload_n C (pc' := 1) dX10_liesIn_0 rfl rfl rfl ?_
  refine v_astore3 C (pc' := 2) dX10_liesIn_1 (by decide) rfl rfl ?_
  refine v_iconst C (pc' := 3) dX10_liesIn_2 (v := (0 : Int32)) (by decide) rfl ?_
  refine v_istore4 C (pc' := 5) dX10_liesIn_3 (by decide) rfl rfl ?_
  obtain ⟨t1, It1, E⟩ := bind_some E
  have Kt1 : ∀ ut1, t1 = .inr ut1 → V true G p l e { frames := 0, cells := 0, slots := 0, locals := 0 } s m args below meth c 5 (MQ below (QcA true G (some (aI r)) h) args s 0 0 (A_ G)) h 0 0 34 [some (aA 3 (some 0)), some (aA 5 p1), some (aA 5 p2), some (aA 5 ut1.1), some (aI ut1.2)] [] := by
    intro ut1 hu
    rw [hu] at E
    simp only [Sum.elim_inr] at E
    refine v_iconst C (pc' := 35) dX10_liesIn_34 (v := (0 : Int32)) (by decide) rfl ?_
    cases E
    exact v_retz C hr hlk (Or.inl rfl) dX10_liesIn_35
  refine iter_V (P := fun st1 : (Option Nat) × Int32 => V true G p l e { frames := 0, cells := 0, slots := 0, locals := 0 } s m args below meth c 5 (MQ below (QcA true G (some (aI r)) h) args s 0 0 (A_ G)) h 0 0 5 [some (aA 3 (some 0)), some (aA 5 p1), some (aA 5 p2), some (aA 5 st1.1), some (aI st1.2)] []) ?_ _ _ It1
  rintro ⟨a3t1, a4t1⟩ ot1 Lt1 kxt1 kst1
  rw [tree_liesIn_l5] at Lt1
  show V true G p l e { frames := 0, cells := 0, slots := 0, locals := 0 } s m args below meth c 5 (MQ below (QcA true G (some (aI r)) h) args s 0 0 (A_ G)) h 0 0 5 [some (aA 3 (some 0)), some (aA 5 p1), some (aA 5 p2), some (aA 5 a3t1), some (aI a4t1)] []
  refine v_iload C (pc' := 7) dX10_liesIn_5 rfl rfl ?_
  refine v_bipush C (pc' := 9) dX10_liesIn_7 (v := (24 : Int32)) (by decide) rfl ?_
  refine v_icmp_ge C (tg := 34) (pc' := 12) dX10_liesIn_9 (by decide) rfl (fun q2 => ?_) (fun q2 => ?_)
  · rw [if_pos q2] at Lt1
    cases Lt1
    have z := kxt1 _ rfl
    exact Kt1 _ z.symm
  · rw [if_neg q2] at Lt1
    refine v_aload_n C (pc' := 13) dX10_liesIn_12 rfl rfl rfl ?_
    refine v_ifnull C (tg := 34) (pc' := 16) dX10_liesIn_13 (by decide) rfl (fun q3 => ?_) (fun q3 => ?_)
    · rw [if_pos q3] at Lt1
      cases Lt1
      have z := kxt1 _ rfl
      exact Kt1 _ z.symm
    · rw [if_neg q3] at Lt1
      refine v_aload_n C (pc' := 17) dX10_liesIn_16 rfl rfl rfl ?_
      refine v_aload_n C (pc' := 18) dX10_liesIn_17 rfl rfl rfl ?_
      refine v_acmp_ne C (tg := 23) (pc' := 21) (inj5 G) dX10_liesIn_18 (by decide) rfl (fun q4 => ?_) (fun q4 => ?_)
      · rw [if_neg q4] at Lt1
        refine v_aload_n C (pc' := 24) dX10_liesIn_23 rfl rfl rfl ?_
        obtain ⟨x5, hx5, Lt1⟩ := bind_some Lt1
        obtain ⟨hx5, bx5⟩ := nd_some hx5
        refine V.st (st' := [aA 5 (some x5)]) (by rw [hx5]) ?_
        refine v_getR C (pc' := 27) fl_X10_20 rfl rfl (t2 := 5) rfl (lvq_nd bx5) dX10_liesIn_24 rfl ?_
        refine v_astore3 C (pc' := 28) dX10_liesIn_27 (by decide) rfl rfl ?_
        refine v_iinc4 C (pc' := 31) dX10_liesIn_28 (v := (a4t1 + (1 : Int32))) (by rw [show Int32.ofInt 1 = (1 : Int32) by decide]) (by decide) rfl rfl ?_
        refine v_goto C (pc' := 5) dX10_liesIn_31 (by decide) ?_
        cases Lt1
        exact kst1 _ rfl
      · rw [if_pos q4] at Lt1
        refine v_iconst C (pc' := 22) dX10_liesIn_21 (v := (1 : Int32)) (by decide) rfl ?_
        cases Lt1
        have z := kxt1 _ rfl
        rw [← z] at E
        simp only [Sum.elim_inl] at E
        cases E
        exact v_retz C hr hlk (Or.inr rfl) dX10_liesIn_22

def tree_step (p1 : Option Nat) (p2 : Int64) (h : Hp) : Option (Option Nat) :=
  if p1 = none then
    some none
  else
    (nd 24 p1).bind fun x2 =>
    if (gI h (5, x2) 3) = 0 then
      some none
    else
      if p2 = (50577534877696 : Int64) then
        some p1
      else
        if p2 = (50775103373312 : Int64) then
          (if (gR h (5, x2) 5) = none then
            some p1
          else
            some (gR h (5, x2) 5)).bind fun t8 =>
          some t8
        else
          (tree_child p1 p2 h).bind fun y6 =>
          some y6
set_option maxHeartbeats 2000000 in
set_option maxRecDepth 20000 in
theorem c_tree_step (l : Launch) (p1 : Option Nat) (p2 : Int64) (h : Hp) (r : Option Nat)  (E : tree_step p1 p2 h = some r) : Ctr l yX10_step cX10_step 4 (some (.object "RootedFerry$Node")) 1 27 0 0 true [aA 3 (some 0), aA 5 p1, aL p2] h (some (aA 5 r)) h := by
  rw [tree_step] at E
  refine Ctr.of (ls0 := [some (aA 3 (some 0)), some (aA 5 p1), some (aL p2), none]) (by decide +kernel) (Nat.le_of_ble_eq_true rfl) rfl ?_
  intro G p e s m args below meth c C hr hlk hnm
  refine v_aload_n C (pc' := 1) dX10_step_0 rfl rfl rfl ?_
  refine v_ifnull C (tg := 11) (pc' := 4) dX10_step_1 (by decide) rfl (fun q1 => ?_) (fun q1 => ?_)
  · rw [if_pos q1] at E
    refine v_null C (pc' := 12) (t := 5) dX10_step_11 rfl ?_
    cases E
    exact v_reta C hr (Or.inl ⟨_, rfl⟩) hlk dX10_step_12
  · rw [if_neg q1] at E
    refine v_aload_n C (pc' := 5) dX10_step_4 rfl rfl rfl ?_
    obtain ⟨x2, hx2, E⟩ := bind_some E
    obtain ⟨hx2, bx2⟩ := nd_some hx2
    refine V.st (st' := [aA 5 (some x2)]) (by rw [hx2]) ?_
    refine v_getI C (pc' := 8) fl_X10_28 rfl (Or.inr rfl) (lvq_nd bx2) dX10_step_5 rfl ?_
    refine v_if_ne C (tg := 13) (pc' := 11) dX10_step_8 (by decide) rfl (fun q3 => ?_) (fun q3 => ?_)
    · rw [if_neg q3] at E
      refine v_lload_n C (pc' := 14) dX10_step_13 rfl rfl rfl ?_
      refine v_ldc2 C (pc' := 17) dX10_step_14 (v := (50577534877696 : Int64)) (TT_of (i := 650) (by decide +kernel) (by decide +kernel)) rfl ?_
      refine v_lcmp C (pc' := 18) dX10_step_17 rfl ?_
      refine v_if_ne C (tg := 23) (pc' := 21) dX10_step_18 (by decide) rfl (fun q4 => ?_) (fun q4 => ?_)
      · rw [lgc_eq] at q4
        rw [if_neg q4] at E
        refine v_lload_n C (pc' := 24) dX10_step_23 rfl rfl rfl ?_
        refine v_ldc2 C (pc' := 27) dX10_step_24 (v := (50775103373312 : Int64)) (TT_of (i := 651) (by decide +kernel) (by decide +kernel)) rfl ?_
        refine v_lcmp C (pc' := 28) dX10_step_27 rfl ?_
        refine v_if_ne C (tg := 47) (pc' := 31) dX10_step_28 (by decide) rfl (fun q5 => ?_) (fun q5 => ?_)
        · rw [lgc_eq] at q5
          rw [if_neg q5] at E
          refine v_aload_n C (pc' := 48) dX10_step_47 rfl rfl rfl ?_
          refine v_aload_n C (pc' := 49) dX10_step_48 rfl rfl rfl ?_
          refine v_lload_n C (pc' := 50) dX10_step_49 rfl rfl rfl ?_
          obtain ⟨y6, hy6, E⟩ := bind_some E
          refine v_callV C (pc' := 53) (rest := []) (c_tree_child l p1 p2 h _ hy6) mv_X10_45 rfl rfl lv0_3 dX10_step_50 rfl rfl rfl ⟨Nat.le_of_ble_eq_true rfl, Nat.le_of_ble_eq_true rfl⟩ (Nat.le_of_ble_eq_true rfl) ⟨Nat.le_of_ble_eq_true rfl, Nat.le_of_ble_eq_true rfl⟩ ?_
          refine V.st (st' := [aA 5 y6]) rfl ?_
          cases E
          exact v_reta C hr (Or.inl ⟨_, rfl⟩) hlk dX10_step_53
        · rw [lgc_eq] at q5
          rw [if_pos q5] at E
          refine v_aload_n C (pc' := 32) dX10_step_31 rfl rfl rfl ?_
          refine V.st (st' := [aA 5 (some x2)]) (by rw [hx2]) ?_
          refine v_getR C (pc' := 35) fl_X10_20 rfl rfl (t2 := 5) rfl (lvq_nd bx2) dX10_step_32 rfl ?_
          obtain ⟨t8, At8, E⟩ := bind_some E
          have Kt8 : V true G p l e { frames := 1, cells := 0, slots := 0, locals := 27 } s m args below meth c 4 (MQ below (QcA true G (some (aA 5 r)) h) args s 0 0 (A_ G)) h 0 0 46 [some (aA 3 (some 0)), some (aA 5 p1), some (aL p2), none] [aA 5 t8] := by
            cases E
            exact v_reta C hr (Or.inl ⟨_, rfl⟩) hlk dX10_step_46
          refine v_ifnonnull C (tg := 42) (pc' := 38) dX10_step_35 (by decide) rfl (fun q7 => ?_) (fun q7 => ?_)
          · rw [if_neg q7] at At8
            refine v_aload_n C (pc' := 43) dX10_step_42 rfl rfl rfl ?_
            refine V.st (st' := [aA 5 (some x2)]) (by rw [hx2]) ?_
            refine v_getR C (pc' := 46) fl_X10_20 rfl rfl (t2 := 5) rfl (lvq_nd bx2) dX10_step_43 rfl ?_
            cases At8
            exact Kt8
          · rw [if_pos q7] at At8
            refine v_aload_n C (pc' := 39) dX10_step_38 rfl rfl rfl ?_
            refine v_goto C (pc' := 46) dX10_step_39 (by decide) ?_
            cases At8
            exact Kt8
      · rw [lgc_eq] at q4
        rw [if_pos q4] at E
        refine v_aload_n C (pc' := 22) dX10_step_21 rfl rfl rfl ?_
        cases E
        exact v_reta C hr (Or.inl ⟨_, rfl⟩) hlk dX10_step_22
    · rw [if_pos q3] at E
      refine v_null C (pc' := 12) (t := 5) dX10_step_11 rfl ?_
      cases E
      exact v_reta C hr (Or.inl ⟨_, rfl⟩) hlk dX10_step_12

def cargo_clear  (h : Hp) : Option Hp :=
  some (sI (sL (sR (sR (sI (sI (sI h (12, 0) 1 (0 : Int32)) (12, 0) 2 (0 : Int32)) (12, 0) 3 (0 : Int32)) (12, 0) 4 none) (12, 0) 5 none) (12, 0) 6 (0 : Int64)) (12, 0) 7 (0 : Int32))
set_option maxHeartbeats 2000000 in
set_option maxRecDepth 20000 in
theorem c_cargo_clear (l : Launch)  (h : Hp) (h' : Hp)  (E : cargo_clear  h = some h') : Ctr l yX2_clear cX2_clear 1 none 0 0 0 0 true [aA 12 (some 0)] h none h' := by
  rw [cargo_clear] at E
  refine Ctr.of (ls0 := [some (aA 12 (some 0))]) (by decide +kernel) (Nat.le_of_ble_eq_true rfl) rfl ?_
  intro G p e s m args below meth c C hr hlk hnm
  refine v_aload_n C (pc' := 1) dX2_clear_0 rfl rfl rfl ?_
  refine v_iconst C (pc' := 2) dX2_clear_1 (v := (0 : Int32)) (by decide) rfl ?_
  refine v_putI C (pc' := 5) fp_X2_19 rfl rfl lv0_12 dX2_clear_2 rfl ?_
  refine v_aload_n C (pc' := 6) dX2_clear_5 rfl rfl rfl ?_
  refine v_iconst C (pc' := 7) dX2_clear_6 (v := (0 : Int32)) (by decide) rfl ?_
  refine v_putI C (pc' := 10) fp_X2_23 rfl rfl lv0_12 dX2_clear_7 rfl ?_
  refine v_aload_n C (pc' := 11) dX2_clear_10 rfl rfl rfl ?_
  refine v_iconst C (pc' := 12) dX2_clear_11 (v := (0 : Int32)) (by decide) rfl ?_
  refine v_putI C (pc' := 15) fp_X2_26 rfl rfl lv0_12 dX2_clear_12 rfl ?_
  refine v_aload_n C (pc' := 16) dX2_clear_15 rfl rfl rfl ?_
  refine v_null C (pc' := 17) (t := 5) dX2_clear_16 rfl ?_
  refine v_putR C (pc' := 20) fp_X2_29 rfl rfl lv0_12 dX2_clear_17 rfl (t2 := 5) rfl (fun _ => ⟨rfl, by decide⟩) ?_
  refine v_aload_n C (pc' := 21) dX2_clear_20 rfl rfl rfl ?_
  refine v_null C (pc' := 22) (t := 5) dX2_clear_21 rfl ?_
  refine v_putR C (pc' := 25) fp_X2_33 rfl rfl lv0_12 dX2_clear_22 rfl (t2 := 5) rfl (fun _ => ⟨rfl, by decide⟩) ?_
  refine v_aload_n C (pc' := 26) dX2_clear_25 rfl rfl rfl ?_
  refine v_lconst C (pc' := 27) dX2_clear_26 (v := (0 : Int64)) (by decide) rfl ?_
  refine v_putL C (pc' := 30) fp_X2_36 rfl rfl lv0_12 dX2_clear_27 rfl ?_
  refine v_aload_n C (pc' := 31) dX2_clear_30 rfl rfl rfl ?_
  refine v_iconst C (pc' := 32) dX2_clear_31 (v := (0 : Int32)) (by decide) rfl ?_
  refine v_putZ C (pc' := 35) fp_X2_40 rfl rfl lv0_12 dX2_clear_32 rfl (Or.inl rfl) ?_
  cases E
  exact v_retv C hr hlk dX2_clear_35

def r_dropTransfer  (h : Hp) : Option Hp :=
  (cargo_clear h).bind fun y1 =>
  some (sR y1 (0, 0) 13 (some 0))
set_option maxHeartbeats 2000000 in
set_option maxRecDepth 20000 in
theorem c_r_dropTransfer (l : Launch)  (h : Hp) (h' : Hp)  (E : r_dropTransfer  h = some h') : Ctr l yX12_dropTransfer cX12_dropTransfer 1 none 1 20 0 0 true [aA 0 (some 0)] h none h' := by
  rw [r_dropTransfer] at E
  refine Ctr.of (ls0 := [some (aA 0 (some 0))]) (by decide +kernel) (Nat.le_of_ble_eq_true rfl) rfl ?_
  intro G p e s m args below meth c C hr hlk hnm
  refine v_aload_n C (pc' := 1) dX12_dropTransfer_0 rfl rfl rfl ?_
  refine v_getF C (pc' := 4) rfl fl_X12_47 rfl rfl (t2 := 12) rfl (j := 0) rfl u0_0 dX12_dropTransfer_1 rfl ?_
  obtain ⟨y1, hy1, E⟩ := bind_some E
  refine v_callV C (pc' := 7) (rest := []) (c_cargo_clear l h _ hy1) mv_X12_184 rfl rfl lv0_12 dX12_dropTransfer_4 rfl rfl rfl ⟨Nat.le_of_ble_eq_true rfl, Nat.le_of_ble_eq_true rfl⟩ (Nat.le_of_ble_eq_true rfl) ⟨Nat.le_of_ble_eq_true rfl, Nat.le_of_ble_eq_true rfl⟩ ?_
  refine V.st (st' := []) rfl ?_
  refine v_aload_n C (pc' := 8) dX12_dropTransfer_7 rfl rfl rfl ?_
  refine v_gsW C (pc' := 11) (k := 0) (by decide) (TT_of (i := 299) (by decide +kernel) (by decide +kernel)) dX12_dropTransfer_8 rfl ?_
  refine v_putR C (pc' := 14) fp_X12_85 rfl rfl lv0_0 dX12_dropTransfer_11 rfl (t2 := 102) rfl (fun _ => ⟨rfl, by decide⟩) ?_
  cases E
  exact v_retv C hr hlk dX12_dropTransfer_14

def r_abort  (h : Hp) : Option (Int32 × Hp) :=
  if (gI h (12, 0) 1) = 0 then
    some ((226 : Int32), h)
  else
    (r_dropTransfer h).bind fun y2 =>
    some ((426 : Int32), y2)
set_option maxHeartbeats 2000000 in
set_option maxRecDepth 20000 in
theorem c_r_abort (l : Launch)  (h : Hp) (r : Int32) (h' : Hp)  (E : r_abort  h = some (r, h')) : Ctr l yX12_abort cX12_abort 1 (some .int) 2 40 0 0 true [aA 0 (some 0)] h (some (aI r)) h' := by
  rw [r_abort] at E
  refine Ctr.of (ls0 := [some (aA 0 (some 0))]) (by decide +kernel) (Nat.le_of_ble_eq_true rfl) rfl ?_
  intro G p e s m args below meth c C hr hlk hnm
  refine v_aload_n C (pc' := 1) dX12_abort_0 rfl rfl rfl ?_
  refine v_getF C (pc' := 4) rfl fl_X12_47 rfl rfl (t2 := 12) rfl (j := 0) rfl u0_0 dX12_abort_1 rfl ?_
  refine v_getI C (pc' := 7) fl_X12_153 rfl (Or.inl rfl) lv0_12 dX12_abort_4 rfl ?_
  refine v_if_ne C (tg := 14) (pc' := 10) dX12_abort_7 (by decide) rfl (fun q1 => ?_) (fun q1 => ?_)
  · rw [if_neg q1] at E
    refine v_aload_n C (pc' := 15) dX12_abort_14 rfl rfl rfl ?_
    obtain ⟨y2, hy2, E⟩ := bind_some E
    refine v_callV C (pc' := 18) (rest := []) (c_r_dropTransfer l h _ hy2) mv_X12_159 rfl rfl lv0_0 dX12_abort_15 rfl rfl rfl ⟨Nat.le_of_ble_eq_true rfl, Nat.le_of_ble_eq_true rfl⟩ (Nat.le_of_ble_eq_true rfl) ⟨Nat.le_of_ble_eq_true rfl, Nat.le_of_ble_eq_true rfl⟩ ?_
    refine V.st (st' := []) rfl ?_
    refine v_sipush C (pc' := 21) dX12_abort_18 (v := (426 : Int32)) (by decide) rfl ?_
    cases E
    exact v_reti C hr hlk dX12_abort_21
  · rw [if_pos q1] at E
    refine v_sipush C (pc' := 13) dX12_abort_10 (v := (226 : Int32)) (by decide) rfl ?_
    cases E
    exact v_reti C hr hlk dX12_abort_13

def r_accountOf_l2 (v1 : Int64) (h : Hp) : Int32 → Option (((Option Nat) ⊕ Int32) ⊕ Int32)
  | a3 =>
    (al_size h).bind fun y1 =>
    if y1 ≤ a3 then
      some (.inl (.inr a3))
    else
      (al_get a3 h).bind fun y3 =>
      (nda h y3).bind fun x4 =>
      if (gL h (15, x4) 0) = v1 then
        some (.inl (.inl (some x4)))
      else
        some (.inr (a3 + (1 : Int32)))
def r_accountOf (p1 : Int64) (h : Hp) : Option (Option Nat) :=
  (iter (r_accountOf_l2 p1 h) FU (0 : Int32)).bind fun t6 =>
  t6.elim (fun r => some r) fun ut6 =>
  some none
set_option maxHeartbeats 2000000 in
set_option maxRecDepth 20000 in
theorem c_r_accountOf (l : Launch) (p1 : Int64) (h : Hp) (r : Option Nat)  (E : r_accountOf p1 h = some r) : Ctr l yX12_accountOf cX12_accountOf 5 (some (.object "RootedFerry$Account")) 3 64 0 0 true [aA 0 (some 0), aL p1] h (some (aA 15 r)) h := by
  rw [r_accountOf] at E
  refine Ctr.of (ls0 := [some (aA 0 (some 0)), some (aL p1), none, none, none]) (by decide +kernel) (Nat.le_of_ble_eq_true rfl) rfl ?_
  intro G p e s m args below meth c C hr hlk hnm
  refine v_iconst C (pc' := 1) dX12_accountOf_0 (v := (0 : Int32)) (by decide) rfl ?_
  refine v_istore3 C (pc' := 2) dX12_accountOf_1 (by decide) rfl rfl ?_
  obtain ⟨t1, It1, E⟩ := bind_some E
  have Kt1 : ∀ ut1, t1 = .inr ut1 → V true G p l e { frames := 3, cells := 0, slots := 0, locals := 64 } s m args below meth c 5 (MQ below (QcA true G (some (aA 15 r)) h) args s 0 0 (A_ G)) h 0 0 45 [some (aA 0 (some 0)), some (aL p1), none, some (aI ut1), none] [] := by
    intro ut1 hu
    rw [hu] at E
    simp only [Sum.elim_inr] at E
    refine v_null C (pc' := 46) (t := 15) dX12_accountOf_45 rfl ?_
    cases E
    exact v_reta C hr (Or.inl ⟨_, rfl⟩) hlk dX12_accountOf_46
  refine iter_V (P := fun st1 : Int32 => V true G p l e { frames := 3, cells := 0, slots := 0, locals := 64 } s m args below meth c 5 (MQ below (QcA true G (some (aA 15 r)) h) args s 0 0 (A_ G)) h 0 0 2 [some (aA 0 (some 0)), some (aL p1), none, some (aI st1), none] []) ?_ _ _ It1
  intro a3t1 ot1 Lt1 kxt1 kst1
  rw [r_accountOf_l2] at Lt1
  show V true G p l e { frames := 3, cells := 0, slots := 0, locals := 64 } s m args below meth c 5 (MQ below (QcA true G (some (aA 15 r)) h) args s 0 0 (A_ G)) h 0 0 2 [some (aA 0 (some 0)), some (aL p1), none, some (aI a3t1), none] []
  refine v_iload_n C (pc' := 3) dX12_accountOf_2 rfl rfl rfl ?_
  refine v_aload_n C (pc' := 4) dX12_accountOf_3 rfl rfl rfl ?_
  refine v_getF C (pc' := 7) rfl fl_X12_26 rfl rfl (t2 := 7) rfl (j := 0) rfl u0_0 dX12_accountOf_4 rfl ?_
  obtain ⟨y2, hy2, Lt1⟩ := bind_some Lt1
  refine v_callV C (pc' := 10) (rest := [aI a3t1]) (c_al_size l h _ hy2) mv_X12_103 rfl rfl lv0_7 dX12_accountOf_7 rfl rfl rfl ⟨Nat.le_of_ble_eq_true rfl, Nat.le_of_ble_eq_true rfl⟩ (Nat.le_of_ble_eq_true rfl) ⟨Nat.le_of_ble_eq_true rfl, Nat.le_of_ble_eq_true rfl⟩ ?_
  refine V.st (st' := [aI y2, aI a3t1]) rfl ?_
  refine v_icmp_ge C (tg := 45) (pc' := 13) dX12_accountOf_10 (by decide) rfl (fun q3 => ?_) (fun q3 => ?_)
  · rw [if_pos q3] at Lt1
    cases Lt1
    have z := kxt1 _ rfl
    exact Kt1 _ z.symm
  · rw [if_neg q3] at Lt1
    refine v_aload_n C (pc' := 14) dX12_accountOf_13 rfl rfl rfl ?_
    refine v_getF C (pc' := 17) rfl fl_X12_26 rfl rfl (t2 := 7) rfl (j := 0) rfl u0_0 dX12_accountOf_14 rfl ?_
    refine v_iload_n C (pc' := 18) dX12_accountOf_17 rfl rfl rfl ?_
    obtain ⟨y4, hy4, Lt1⟩ := bind_some Lt1
    refine v_callV C (pc' := 21) (rest := []) (c_al_get l a3t1 h _ hy4) mv_X12_176 rfl rfl lv0_7 dX12_accountOf_18 rfl rfl rfl ⟨Nat.le_of_ble_eq_true rfl, Nat.le_of_ble_eq_true rfl⟩ (Nat.le_of_ble_eq_true rfl) ⟨Nat.le_of_ble_eq_true rfl, Nat.le_of_ble_eq_true rfl⟩ ?_
    refine V.st (st' := [aA 15 y4]) rfl ?_
    obtain ⟨x5, hx5, Lt1⟩ := bind_some Lt1
    obtain ⟨hx5, lvx5⟩ := nda_some hx5
    refine V.st (st' := [aA 15 (some x5)]) (by rw [hx5]) ?_
    refine v_cast15 C (pc' := 24) lvx5 (TT_of (i := 391) (by decide +kernel) (by decide +kernel)) dX12_accountOf_21 rfl ?_
    refine v_astore4 C (pc' := 26) dX12_accountOf_24 (by decide) rfl rfl ?_
    refine v_aload C (pc' := 28) dX12_accountOf_26 rfl rfl ?_
    refine v_getL C (pc' := 31) fl_X12_180 rfl rfl lvx5 dX12_accountOf_28 rfl ?_
    refine v_lload_n C (pc' := 32) dX12_accountOf_31 rfl rfl rfl ?_
    refine v_lcmp C (pc' := 33) dX12_accountOf_32 rfl ?_
    refine v_if_ne C (tg := 39) (pc' := 36) dX12_accountOf_33 (by decide) rfl (fun q6 => ?_) (fun q6 => ?_)
    · rw [lgc_eq] at q6
      rw [if_neg q6] at Lt1
      refine v_iinc3 C (pc' := 42) dX12_accountOf_39 (v := (a3t1 + (1 : Int32))) (by rw [show Int32.ofInt 1 = (1 : Int32) by decide]) (by decide) rfl rfl ?_
      refine v_goto C (pc' := 2) dX12_accountOf_42 (by decide) ?_
      cases Lt1
      exact V.ls (ms := [true, true, false, true, false]) rfl (kst1 _ rfl)
    · rw [lgc_eq] at q6
      rw [if_pos q6] at Lt1
      refine v_aload C (pc' := 38) dX12_accountOf_36 rfl rfl ?_
      cases Lt1
      have z := kxt1 _ rfl
      rw [← z] at E
      simp only [Sum.elim_inl] at E
      cases E
      exact v_reta C hr (Or.inl ⟨_, rfl⟩) hlk dX12_accountOf_38

def line_commandLength_l2  (h : Hp) : Int32 → Option ((Int32 ⊕ Int32) ⊕ Int32)
  | a1 =>
    if (gI h (1, 0) 1) ≤ a1 then
      some (.inl (.inr a1))
    else
      if (32 : Int32) ≤ a1 then
        some (.inl (.inr a1))
      else
        guardB a1 32 <|
        if (gI h (2, 0) a1.toNatClampNeg) = (32 : Int32) then
          some (.inl (.inl a1))
        else
          some (.inr (a1 + (1 : Int32)))
def line_commandLength  (h : Hp) : Option Int32 :=
  (iter (line_commandLength_l2 h) FU (0 : Int32)).bind fun t5 =>
  t5.elim (fun r => some r) fun ut5 =>
  some (gI h (1, 0) 1)
set_option maxHeartbeats 2000000 in
set_option maxRecDepth 20000 in
theorem c_line_commandLength (l : Launch)  (h : Hp) (r : Int32)  (E : line_commandLength  h = some r) : Ctr l yX4_commandLength cX4_commandLength 2 (some .int) 0 0 0 0 true [aA 1 (some 0)] h (some (aI r)) h := by
  rw [line_commandLength] at E
  refine Ctr.of (ls0 := [some (aA 1 (some 0)), none]) (by decide +kernel) (Nat.le_of_ble_eq_true rfl) rfl ?_
  intro G p e s m args below meth c C hr hlk hnm
  refine v_iconst C (pc' := 1) dX4_commandLength_0 (v := (0 : Int32)) (by decide) rfl ?_
  refine v_istore1 C (pc' := 2) dX4_commandLength_1 (by decide) rfl rfl ?_
  obtain ⟨t1, It1, E⟩ := bind_some E
  have Kt1 : ∀ ut1, t1 = .inr ut1 → V true G p l e { frames := 0, cells := 0, slots := 0, locals := 0 } s m args below meth c 2 (MQ below (QcA true G (some (aI r)) h) args s 0 0 (A_ G)) h 0 0 38 [some (aA 1 (some 0)), some (aI ut1)] [] := by
    intro ut1 hu
    rw [hu] at E
    simp only [Sum.elim_inr] at E
    refine v_aload_n C (pc' := 39) dX4_commandLength_38 rfl rfl rfl ?_
    refine v_getI C (pc' := 42) fl_X4_15 rfl (Or.inl rfl) lv0_1 dX4_commandLength_39 rfl ?_
    cases E
    exact v_reti C hr hlk dX4_commandLength_42
  refine iter_V (P := fun st1 : Int32 => V true G p l e { frames := 0, cells := 0, slots := 0, locals := 0 } s m args below meth c 2 (MQ below (QcA true G (some (aI r)) h) args s 0 0 (A_ G)) h 0 0 2 [some (aA 1 (some 0)), some (aI st1)] []) ?_ _ _ It1
  intro a1t1 ot1 Lt1 kxt1 kst1
  rw [line_commandLength_l2] at Lt1
  show V true G p l e { frames := 0, cells := 0, slots := 0, locals := 0 } s m args below meth c 2 (MQ below (QcA true G (some (aI r)) h) args s 0 0 (A_ G)) h 0 0 2 [some (aA 1 (some 0)), some (aI a1t1)] []
  refine v_iload_n C (pc' := 3) dX4_commandLength_2 rfl rfl rfl ?_
  refine v_aload_n C (pc' := 4) dX4_commandLength_3 rfl rfl rfl ?_
  refine v_getI C (pc' := 7) fl_X4_15 rfl (Or.inl rfl) lv0_1 dX4_commandLength_4 rfl ?_
  refine v_icmp_ge C (tg := 38) (pc' := 10) dX4_commandLength_7 (by decide) rfl (fun q2 => ?_) (fun q2 => ?_)
  · rw [if_pos q2] at Lt1
    cases Lt1
    have z := kxt1 _ rfl
    exact Kt1 _ z.symm
  · rw [if_neg q2] at Lt1
    refine v_iload_n C (pc' := 11) dX4_commandLength_10 rfl rfl rfl ?_
    refine v_aload_n C (pc' := 12) dX4_commandLength_11 rfl rfl rfl ?_
    refine v_getF C (pc' := 15) rfl fl_X4_9 rfl rfl (t2 := 2) rfl (j := 0) rfl u0_1 dX4_commandLength_12 rfl ?_
    refine v_alen C (pc' := 16) (t := 2) rfl (by decide) lv0_2 (v := (32 : Int32)) (by decide) dX4_commandLength_15 rfl ?_
    refine v_icmp_ge C (tg := 38) (pc' := 19) dX4_commandLength_16 (by decide) rfl (fun q3 => ?_) (fun q3 => ?_)
    · rw [if_pos q3] at Lt1
      cases Lt1
      have z := kxt1 _ rfl
      exact Kt1 _ z.symm
    · rw [if_neg q3] at Lt1
      refine v_aload_n C (pc' := 20) dX4_commandLength_19 rfl rfl rfl ?_
      refine v_getF C (pc' := 23) rfl fl_X4_9 rfl rfl (t2 := 2) rfl (j := 0) rfl u0_1 dX4_commandLength_20 rfl ?_
      refine v_iload_n C (pc' := 24) dX4_commandLength_23 rfl rfl rfl ?_
      obtain ⟨g4, Lt1⟩ := guardB_some Lt1
      refine v_cald C (pc' := 25) (t := 2) rfl lv0_2 g4 dX4_commandLength_24 rfl ?_
      refine v_bipush C (pc' := 27) dX4_commandLength_25 (v := (32 : Int32)) (by decide) rfl ?_
      refine v_icmp_ne C (tg := 32) (pc' := 30) dX4_commandLength_27 (by decide) rfl (fun q5 => ?_) (fun q5 => ?_)
      · rw [if_neg q5] at Lt1
        refine v_iinc1 C (pc' := 35) dX4_commandLength_32 (v := (a1t1 + (1 : Int32))) (by rw [show Int32.ofInt 1 = (1 : Int32) by decide]) (by decide) rfl rfl ?_
        refine v_goto C (pc' := 2) dX4_commandLength_35 (by decide) ?_
        cases Lt1
        exact kst1 _ rfl
      · rw [if_pos q5] at Lt1
        refine v_iload_n C (pc' := 31) dX4_commandLength_30 rfl rfl rfl ?_
        cases Lt1
        have z := kxt1 _ rfl
        rw [← z] at E
        simp only [Sum.elim_inl] at E
        cases E
        exact v_reti C hr hlk dX4_commandLength_31

def line_at (p1 : Int32) (h : Hp) : Option Int32 :=
  (if p1 < 0 then
    some (0 : Int32)
  else
    if (gI h (1, 0) 1) ≤ p1 then
      some (0 : Int32)
    else
      guardB p1 32 <|
      some (gI h (2, 0) p1.toNatClampNeg)).bind fun t2 =>
  guardC t2 <|
  some t2
set_option maxHeartbeats 2000000 in
set_option maxRecDepth 20000 in
theorem c_line_at (l : Launch) (p1 : Int32) (h : Hp) (r : Int32)  (E : line_at p1 h = some r) : Ctr l yX4_at cX4_at 2 (some .char) 0 0 0 0 true [aA 1 (some 0), aI p1] h (some (aI r)) h := by
  rw [line_at] at E
  refine Ctr.of (ls0 := [some (aA 1 (some 0)), some (aI p1)]) (by decide +kernel) (Nat.le_of_ble_eq_true rfl) rfl ?_
  intro G p e s m args below meth c C hr hlk hnm
  refine v_iload_n C (pc' := 1) dX4_at_0 rfl rfl rfl ?_
  obtain ⟨t2, At2, E⟩ := bind_some E
  have Kt2 : V true G p l e { frames := 0, cells := 0, slots := 0, locals := 0 } s m args below meth c 2 (MQ below (QcA true G (some (aI r)) h) args s 0 0 (A_ G)) h 0 0 22 [some (aA 1 (some 0)), some (aI p1)] [aI t2] := by
    obtain ⟨z5, E⟩ := guardC_some E
    cases E
    exact v_retc C hr hlk z5 dX4_at_22
  refine v_if_lt C (tg := 21) (pc' := 4) dX4_at_1 (by decide) rfl (fun q1 => ?_) (fun q1 => ?_)
  · rw [if_pos q1] at At2
    refine v_iconst C (pc' := 22) dX4_at_21 (v := (0 : Int32)) (by decide) rfl ?_
    cases At2
    exact Kt2
  · rw [if_neg q1] at At2
    refine v_iload_n C (pc' := 5) dX4_at_4 rfl rfl rfl ?_
    refine v_aload_n C (pc' := 6) dX4_at_5 rfl rfl rfl ?_
    refine v_getI C (pc' := 9) fl_X4_15 rfl (Or.inl rfl) lv0_1 dX4_at_6 rfl ?_
    refine v_icmp_ge C (tg := 21) (pc' := 12) dX4_at_9 (by decide) rfl (fun q3 => ?_) (fun q3 => ?_)
    · rw [if_pos q3] at At2
      refine v_iconst C (pc' := 22) dX4_at_21 (v := (0 : Int32)) (by decide) rfl ?_
      cases At2
      exact Kt2
    · rw [if_neg q3] at At2
      refine v_aload_n C (pc' := 13) dX4_at_12 rfl rfl rfl ?_
      refine v_getF C (pc' := 16) rfl fl_X4_9 rfl rfl (t2 := 2) rfl (j := 0) rfl u0_1 dX4_at_13 rfl ?_
      refine v_iload_n C (pc' := 17) dX4_at_16 rfl rfl rfl ?_
      obtain ⟨g4, At2⟩ := guardB_some At2
      refine v_cald C (pc' := 18) (t := 2) rfl lv0_2 g4 dX4_at_17 rfl ?_
      refine v_goto C (pc' := 22) dX4_at_18 (by decide) ?_
      cases At2
      exact Kt2

def line_capital (p0 : Int32) (h : Hp) : Option Int32 :=
  (if p0 < (97 : Int32) then
    some p0
  else
    if (122 : Int32) < p0 then
      some p0
    else
      some (((p0 - (32 : Int32)).toUInt32 % 65536).toInt32)).bind fun t2 =>
  guardC t2 <|
  some t2
set_option maxHeartbeats 2000000 in
set_option maxRecDepth 20000 in
theorem c_line_capital (l : Launch) (p0 : Int32) (h : Hp) (r : Int32)  (E : line_capital p0 h = some r) : Ctr l yX4_capital cX4_capital 1 (some .char) 0 0 0 0 true [aI p0] h (some (aI r)) h := by
  rw [line_capital] at E
  refine Ctr.of (ls0 := [some (aI p0)]) (by decide +kernel) (Nat.le_of_ble_eq_true rfl) rfl ?_
  intro G p e s m args below meth c C hr hlk hnm
  refine v_iload_n C (pc' := 1) dX4_capital_0 rfl rfl rfl ?_
  refine v_bipush C (pc' := 3) dX4_capital_1 (v := (97 : Int32)) (by decide) rfl ?_
  obtain ⟨t2, At2, E⟩ := bind_some E
  have Kt2 : V true G p l e { frames := 0, cells := 0, slots := 0, locals := 0 } s m args below meth c 1 (MQ below (QcA true G (some (aI r)) h) args s 0 0 (A_ G)) h 0 0 21 [some (aI p0)] [aI t2] := by
    obtain ⟨z4, E⟩ := guardC_some E
    cases E
    exact v_retc C hr hlk z4 dX4_capital_21
  refine v_icmp_lt C (tg := 20) (pc' := 6) dX4_capital_3 (by decide) rfl (fun q1 => ?_) (fun q1 => ?_)
  · rw [if_pos q1] at At2
    refine v_iload_n C (pc' := 21) dX4_capital_20 rfl rfl rfl ?_
    cases At2
    exact Kt2
  · rw [if_neg q1] at At2
    refine v_iload_n C (pc' := 7) dX4_capital_6 rfl rfl rfl ?_
    refine v_bipush C (pc' := 9) dX4_capital_7 (v := (122 : Int32)) (by decide) rfl ?_
    refine v_icmp_gt C (tg := 20) (pc' := 12) dX4_capital_9 (by decide) rfl (fun q3 => ?_) (fun q3 => ?_)
    · rw [if_pos q3] at At2
      refine v_iload_n C (pc' := 21) dX4_capital_20 rfl rfl rfl ?_
      cases At2
      exact Kt2
    · rw [if_neg q3] at At2
      refine v_iload_n C (pc' := 13) dX4_capital_12 rfl rfl rfl ?_
      refine v_bipush C (pc' := 15) dX4_capital_13 (v := (32 : Int32)) (by decide) rfl ?_
      refine v_isub C (pc' := 16) dX4_capital_15 rfl ?_
      refine v_i2c C (pc' := 17) dX4_capital_16 rfl ?_
      refine v_goto C (pc' := 21) dX4_capital_17 (by decide) ?_
      cases At2
      exact Kt2

def line_startsWithCommand_l15 (v1 : Option Nat) (h : Hp) : Int32 → Option ((Int32 ⊕ Int32) ⊕ Int32)
  | a2 =>
    (nd 22 v1).bind fun x5 =>
    (str_length x5 h).bind fun y6 =>
    if y6 ≤ a2 then
      some (.inl (.inr a2))
    else
      (line_at a2 h).bind fun y8 =>
      (line_capital y8 h).bind fun y9 =>
      (str_charAt x5 a2 h).bind fun y10 =>
      if y9 = y10 then
        some (.inr (a2 + (1 : Int32)))
      else
        some (.inl (.inl (0 : Int32)))
def line_startsWithCommand (p1 : Option Nat) (h : Hp) : Option Int32 :=
  (line_commandLength h).bind fun y1 =>
  (nd 22 p1).bind fun x2 =>
  (str_length x2 h).bind fun y3 =>
  if y1 = y3 then
    (iter (line_startsWithCommand_l15 p1 h) FU (0 : Int32)).bind fun t12 =>
    t12.elim (fun r => some r) fun ut12 =>
    some (1 : Int32)
  else
    some (0 : Int32)
set_option maxHeartbeats 2000000 in
set_option maxRecDepth 20000 in
theorem c_line_startsWithCommand (l : Launch) (p1 : Option Nat) (h : Hp) (r : Int32)  (E : line_startsWithCommand p1 h = some r) : Ctr l yX4_startsWithCommand cX4_startsWithCommand 3 (some .boolean) 5 106 0 0 true [aA 1 (some 0), aA 101 p1] h (some (aI r)) h := by
  rw [line_startsWithCommand] at E
  refine Ctr.of (ls0 := [some (aA 1 (some 0)), some (aA 101 p1), none]) (by decide +kernel) (Nat.le_of_ble_eq_true rfl) rfl ?_
  intro G p e s m args below meth c C hr hlk hnm
  refine v_aload_n C (pc' := 1) dX4_startsWithCommand_0 rfl rfl rfl ?_
  obtain ⟨y1, hy1, E⟩ := bind_some E
  refine v_callV C (pc' := 4) (rest := []) (c_line_commandLength l h _ hy1) mv_X4_19 rfl rfl lv0_1 dX4_startsWithCommand_1 rfl rfl rfl ⟨Nat.le_of_ble_eq_true rfl, Nat.le_of_ble_eq_true rfl⟩ (Nat.le_of_ble_eq_true rfl) ⟨Nat.le_of_ble_eq_true rfl, Nat.le_of_ble_eq_true rfl⟩ ?_
  refine V.st (st' := [aI y1]) rfl ?_
  refine v_aload_n C (pc' := 5) dX4_startsWithCommand_4 rfl rfl rfl ?_
  obtain ⟨x2, hx2, E⟩ := bind_some E
  obtain ⟨hx2, bx2⟩ := nd_some hx2
  refine V.st (st' := [aA 101 (some x2), aI y1]) (by rw [hx2]) ?_
  obtain ⟨y3, hy3, E⟩ := bind_some E
  refine v_callKs C (pc' := 8) (rest := [aI y1]) (c_str_length l x2 h _ bx2 hy3) mv_X4_23 bx2 rfl dX4_startsWithCommand_5 rfl rfl rfl ⟨Nat.le_of_ble_eq_true rfl, Nat.le_of_ble_eq_true rfl⟩ (Nat.le_of_ble_eq_true rfl) ⟨Nat.le_of_ble_eq_true rfl, Nat.le_of_ble_eq_true rfl⟩ ?_
  refine V.st (st' := [aI y3, aI y1]) rfl ?_
  refine v_icmp_eq C (tg := 13) (pc' := 11) dX4_startsWithCommand_8 (by decide) rfl (fun q4 => ?_) (fun q4 => ?_)
  · rw [if_pos q4] at E
    refine v_iconst C (pc' := 14) dX4_startsWithCommand_13 (v := (0 : Int32)) (by decide) rfl ?_
    refine v_istore2 C (pc' := 15) dX4_startsWithCommand_14 (by decide) rfl rfl ?_
    obtain ⟨t5, It5, E⟩ := bind_some E
    have Kt5 : ∀ ut5, t5 = .inr ut5 → V true G p l e { frames := 5, cells := 0, slots := 0, locals := 106 } s m args below meth c 3 (MQ below (QcA true G (some (aI r)) h) args s 0 0 (A_ G)) h 0 0 47 [some (aA 1 (some 0)), some (aA 101 p1), some (aI ut5)] [] := by
      intro ut5 hu
      rw [hu] at E
      simp only [Sum.elim_inr] at E
      refine v_iconst C (pc' := 48) dX4_startsWithCommand_47 (v := (1 : Int32)) (by decide) rfl ?_
      cases E
      exact v_retz C hr hlk (Or.inr rfl) dX4_startsWithCommand_48
    refine iter_V (P := fun st5 : Int32 => V true G p l e { frames := 5, cells := 0, slots := 0, locals := 106 } s m args below meth c 3 (MQ below (QcA true G (some (aI r)) h) args s 0 0 (A_ G)) h 0 0 15 [some (aA 1 (some 0)), some (aA 101 p1), some (aI st5)] []) ?_ _ _ It5
    intro a2t5 ot5 Lt5 kxt5 kst5
    rw [line_startsWithCommand_l15] at Lt5
    show V true G p l e { frames := 5, cells := 0, slots := 0, locals := 106 } s m args below meth c 3 (MQ below (QcA true G (some (aI r)) h) args s 0 0 (A_ G)) h 0 0 15 [some (aA 1 (some 0)), some (aA 101 p1), some (aI a2t5)] []
    refine v_iload_n C (pc' := 16) dX4_startsWithCommand_15 rfl rfl rfl ?_
    refine v_aload_n C (pc' := 17) dX4_startsWithCommand_16 rfl rfl rfl ?_
    obtain ⟨x6, hx6, Lt5⟩ := bind_some Lt5
    obtain ⟨hx6, bx6⟩ := nd_some hx6
    refine V.st (st' := [aA 101 (some x6), aI a2t5]) (by rw [hx6]) ?_
    obtain ⟨y7, hy7, Lt5⟩ := bind_some Lt5
    refine v_callKs C (pc' := 20) (rest := [aI a2t5]) (c_str_length l x6 h _ bx6 hy7) mv_X4_23 bx6 rfl dX4_startsWithCommand_17 rfl rfl rfl ⟨Nat.le_of_ble_eq_true rfl, Nat.le_of_ble_eq_true rfl⟩ (Nat.le_of_ble_eq_true rfl) ⟨Nat.le_of_ble_eq_true rfl, Nat.le_of_ble_eq_true rfl⟩ ?_
    refine V.st (st' := [aI y7, aI a2t5]) rfl ?_
    refine v_icmp_ge C (tg := 47) (pc' := 23) dX4_startsWithCommand_20 (by decide) rfl (fun q8 => ?_) (fun q8 => ?_)
    · rw [if_pos q8] at Lt5
      cases Lt5
      have z := kxt5 _ rfl
      exact Kt5 _ z.symm
    · rw [if_neg q8] at Lt5
      refine v_aload_n C (pc' := 24) dX4_startsWithCommand_23 rfl rfl rfl ?_
      refine v_iload_n C (pc' := 25) dX4_startsWithCommand_24 rfl rfl rfl ?_
      obtain ⟨y9, hy9, Lt5⟩ := bind_some Lt5
      refine v_callV C (pc' := 28) (rest := []) (c_line_at l a2t5 h _ hy9) mv_X4_27 rfl rfl lv0_1 dX4_startsWithCommand_25 rfl rfl rfl ⟨Nat.le_of_ble_eq_true rfl, Nat.le_of_ble_eq_true rfl⟩ (Nat.le_of_ble_eq_true rfl) ⟨Nat.le_of_ble_eq_true rfl, Nat.le_of_ble_eq_true rfl⟩ ?_
      refine V.st (st' := [aI y9]) rfl ?_
      obtain ⟨y10, hy10, Lt5⟩ := bind_some Lt5
      refine v_callS C (pc' := 31) (rest := []) (c_line_capital l y9 h _ hy10) ms_X4_31 dX4_startsWithCommand_28 rfl rfl rfl ⟨Nat.le_of_ble_eq_true rfl, Nat.le_of_ble_eq_true rfl⟩ (Nat.le_of_ble_eq_true rfl) ⟨Nat.le_of_ble_eq_true rfl, Nat.le_of_ble_eq_true rfl⟩ ?_
      refine V.st (st' := [aI y10]) rfl ?_
      refine v_aload_n C (pc' := 32) dX4_startsWithCommand_31 rfl rfl rfl ?_
      refine v_iload_n C (pc' := 33) dX4_startsWithCommand_32 rfl rfl rfl ?_
      refine V.st (st' := [aI a2t5, aA 101 (some x6), aI y10]) (by rw [hx6]) ?_
      obtain ⟨y11, hy11, Lt5⟩ := bind_some Lt5
      refine v_callKs C (pc' := 36) (rest := [aI y10]) (c_str_charAt l x6 a2t5 h _ bx6 hy11) mv_X4_35 bx6 rfl dX4_startsWithCommand_33 rfl rfl rfl ⟨Nat.le_of_ble_eq_true rfl, Nat.le_of_ble_eq_true rfl⟩ (Nat.le_of_ble_eq_true rfl) ⟨Nat.le_of_ble_eq_true rfl, Nat.le_of_ble_eq_true rfl⟩ ?_
      refine V.st (st' := [aI y11, aI y10]) rfl ?_
      refine v_icmp_eq C (tg := 41) (pc' := 39) dX4_startsWithCommand_36 (by decide) rfl (fun q12 => ?_) (fun q12 => ?_)
      · rw [if_pos q12] at Lt5
        refine v_iinc2 C (pc' := 44) dX4_startsWithCommand_41 (v := (a2t5 + (1 : Int32))) (by rw [show Int32.ofInt 1 = (1 : Int32) by decide]) (by decide) rfl rfl ?_
        refine v_goto C (pc' := 15) dX4_startsWithCommand_44 (by decide) ?_
        cases Lt5
        exact kst5 _ rfl
      · rw [if_neg q12] at Lt5
        refine v_iconst C (pc' := 40) dX4_startsWithCommand_39 (v := (0 : Int32)) (by decide) rfl ?_
        cases Lt5
        have z := kxt5 _ rfl
        rw [← z] at E
        simp only [Sum.elim_inl] at E
        cases E
        exact v_retz C hr hlk (Or.inl rfl) dX4_startsWithCommand_40
  · rw [if_neg q4] at E
    refine v_iconst C (pc' := 12) dX4_startsWithCommand_11 (v := (0 : Int32)) (by decide) rfl ?_
    cases E
    exact v_retz C hr hlk (Or.inl rfl) dX4_startsWithCommand_12

def r_commandOfLine_l9  (h : Hp) : Int32 → Option (((Option Nat) ⊕ Int32) ⊕ Int32)
  | a3 =>
    if (22 : Int32) ≤ a3 then
      some (.inl (.inr a3))
    else
      guardB a3 22 <|
      (line_startsWithCommand (some a3.toNatClampNeg) h).bind fun y3 =>
      if y3 = 0 then
        some (.inr (a3 + (1 : Int32)))
      else
        some (.inl (.inl (some a3.toNatClampNeg)))
def r_commandOfLine  (h : Hp) : Option (Option Nat) :=
  (iter (r_commandOfLine_l9 h) FU (0 : Int32)).bind fun t5 =>
  t5.elim (fun r => some r) fun ut5 =>
  some none
set_option maxHeartbeats 2000000 in
set_option maxRecDepth 20000 in
theorem c_r_commandOfLine (l : Launch)  (h : Hp) (r : Option Nat)  (E : r_commandOfLine  h = some r) : Ctr l yX12_commandOfLine cX12_commandOfLine 5 (some (.object "RootedFerry$Command")) 6 128 0 0 true [aA 0 (some 0)] h (some (aA 100 r)) h := by
  rw [r_commandOfLine] at E
  refine Ctr.of (ls0 := [some (aA 0 (some 0)), none, none, none, none]) (by decide +kernel) (Nat.le_of_ble_eq_true rfl) rfl ?_
  intro G p e s m args below meth c C hr hlk hnm
  refine v_gsC C (pc' := 3) (TT_of (i := 516) (by decide +kernel) (by decide +kernel)) dX12_commandOfLine_0 rfl ?_
  refine v_astore1 C (pc' := 4) dX12_commandOfLine_3 (by decide) rfl rfl ?_
  refine v_aload_n C (pc' := 5) dX12_commandOfLine_4 rfl rfl rfl ?_
  refine v_alenC C (pc' := 6) dX12_commandOfLine_5 rfl ?_
  refine v_istore2 C (pc' := 7) dX12_commandOfLine_6 (by decide) rfl rfl ?_
  refine v_iconst C (pc' := 8) dX12_commandOfLine_7 (v := (0 : Int32)) (by decide) rfl ?_
  refine v_istore3 C (pc' := 9) dX12_commandOfLine_8 (by decide) rfl rfl ?_
  obtain ⟨t1, It1, E⟩ := bind_some E
  have Kt1 : ∀ ut1, t1 = .inr ut1 → V true G p l e { frames := 6, cells := 0, slots := 0, locals := 128 } s m args below meth c 5 (MQ below (QcA true G (some (aA 100 r)) h) args s 0 0 (A_ G)) h 0 0 43 [some (aA 0 (some 0)), some (aA 103 (some 0)), some (aI (22 : Int32)), some (aI ut1), none] [] := by
    intro ut1 hu
    rw [hu] at E
    simp only [Sum.elim_inr] at E
    refine v_null C (pc' := 44) (t := 100) dX12_commandOfLine_43 rfl ?_
    cases E
    exact v_reta C hr (Or.inl ⟨_, rfl⟩) hlk dX12_commandOfLine_44
  refine iter_V (P := fun st1 : Int32 => V true G p l e { frames := 6, cells := 0, slots := 0, locals := 128 } s m args below meth c 5 (MQ below (QcA true G (some (aA 100 r)) h) args s 0 0 (A_ G)) h 0 0 9 [some (aA 0 (some 0)), some (aA 103 (some 0)), some (aI (22 : Int32)), some (aI st1), none] []) ?_ _ _ It1
  intro a3t1 ot1 Lt1 kxt1 kst1
  rw [r_commandOfLine_l9] at Lt1
  show V true G p l e { frames := 6, cells := 0, slots := 0, locals := 128 } s m args below meth c 5 (MQ below (QcA true G (some (aA 100 r)) h) args s 0 0 (A_ G)) h 0 0 9 [some (aA 0 (some 0)), some (aA 103 (some 0)), some (aI (22 : Int32)), some (aI a3t1), none] []
  refine v_iload_n C (pc' := 10) dX12_commandOfLine_9 rfl rfl rfl ?_
  refine v_iload_n C (pc' := 11) dX12_commandOfLine_10 rfl rfl rfl ?_
  refine v_icmp_ge C (tg := 43) (pc' := 14) dX12_commandOfLine_11 (by decide) rfl (fun q2 => ?_) (fun q2 => ?_)
  · rw [if_pos q2] at Lt1
    cases Lt1
    have z := kxt1 _ rfl
    exact Kt1 _ z.symm
  · rw [if_neg q2] at Lt1
    refine v_aload_n C (pc' := 15) dX12_commandOfLine_14 rfl rfl rfl ?_
    refine v_iload_n C (pc' := 16) dX12_commandOfLine_15 rfl rfl rfl ?_
    obtain ⟨g3, Lt1⟩ := guardB_some Lt1
    refine v_aaldC C (pc' := 17) g3 dX12_commandOfLine_16 rfl ?_
    refine v_astore4 C (pc' := 19) dX12_commandOfLine_17 (by decide) rfl rfl ?_
    refine v_aload_n C (pc' := 20) dX12_commandOfLine_19 rfl rfl rfl ?_
    refine v_getF C (pc' := 23) rfl fl_X12_10 rfl rfl (t2 := 1) rfl (j := 0) rfl u0_0 dX12_commandOfLine_20 rfl ?_
    refine v_aload C (pc' := 25) dX12_commandOfLine_23 rfl rfl ?_
    refine v_kLet C (pc' := 28) (inB_lt g3) (TT_of (i := 1251) (by decide +kernel) (by decide +kernel)) dX12_commandOfLine_25 rfl ?_
    obtain ⟨y4, hy4, Lt1⟩ := bind_some Lt1
    refine v_callV C (pc' := 31) (rest := []) (c_line_startsWithCommand l (some a3t1.toNatClampNeg) h _ hy4) mv_X12_226 rfl rfl lv0_1 dX12_commandOfLine_28 rfl rfl rfl ⟨Nat.le_of_ble_eq_true rfl, Nat.le_of_ble_eq_true rfl⟩ (Nat.le_of_ble_eq_true rfl) ⟨Nat.le_of_ble_eq_true rfl, Nat.le_of_ble_eq_true rfl⟩ ?_
    refine V.st (st' := [aI y4]) rfl ?_
    refine v_if_eq C (tg := 37) (pc' := 34) dX12_commandOfLine_31 (by decide) rfl (fun q5 => ?_) (fun q5 => ?_)
    · rw [if_pos q5] at Lt1
      refine v_iinc3 C (pc' := 40) dX12_commandOfLine_37 (v := (a3t1 + (1 : Int32))) (by rw [show Int32.ofInt 1 = (1 : Int32) by decide]) (by decide) rfl rfl ?_
      refine v_goto C (pc' := 9) dX12_commandOfLine_40 (by decide) ?_
      cases Lt1
      exact V.ls (ms := [true, true, true, true, false]) rfl (kst1 _ rfl)
    · rw [if_neg q5] at Lt1
      refine v_aload C (pc' := 36) dX12_commandOfLine_34 rfl rfl ?_
      cases Lt1
      have z := kxt1 _ rfl
      rw [← z] at E
      simp only [Sum.elim_inl] at E
      cases E
      exact v_reta C hr (Or.inl ⟨_, rfl⟩) hlk dX12_commandOfLine_36

def line_endsWithItsSpace  (h : Hp) : Option Int32 :=
  (line_commandLength h).bind fun y1 =>
  (if (gI h (1, 0) 1) = (y1 + (1 : Int32)) then
    some (1 : Int32)
  else
    some (0 : Int32)).bind fun t3 =>
  guardZ t3 <|
  some t3
set_option maxHeartbeats 2000000 in
set_option maxRecDepth 20000 in
theorem c_line_endsWithItsSpace (l : Launch)  (h : Hp) (r : Int32)  (E : line_endsWithItsSpace  h = some r) : Ctr l yX4_endsWithItsSpace cX4_endsWithItsSpace 1 (some .boolean) 1 21 0 0 true [aA 1 (some 0)] h (some (aI r)) h := by
  rw [line_endsWithItsSpace] at E
  refine Ctr.of (ls0 := [some (aA 1 (some 0))]) (by decide +kernel) (Nat.le_of_ble_eq_true rfl) rfl ?_
  intro G p e s m args below meth c C hr hlk hnm
  refine v_aload_n C (pc' := 1) dX4_endsWithItsSpace_0 rfl rfl rfl ?_
  refine v_getI C (pc' := 4) fl_X4_15 rfl (Or.inl rfl) lv0_1 dX4_endsWithItsSpace_1 rfl ?_
  refine v_aload_n C (pc' := 5) dX4_endsWithItsSpace_4 rfl rfl rfl ?_
  obtain ⟨y1, hy1, E⟩ := bind_some E
  refine v_callV C (pc' := 8) (rest := [aI (gI h (1, 0) 1)]) (c_line_commandLength l h _ hy1) mv_X4_19 rfl rfl lv0_1 dX4_endsWithItsSpace_5 rfl rfl rfl ⟨Nat.le_of_ble_eq_true rfl, Nat.le_of_ble_eq_true rfl⟩ (Nat.le_of_ble_eq_true rfl) ⟨Nat.le_of_ble_eq_true rfl, Nat.le_of_ble_eq_true rfl⟩ ?_
  refine V.st (st' := [aI y1, aI (gI h (1, 0) 1)]) rfl ?_
  refine v_iconst C (pc' := 9) dX4_endsWithItsSpace_8 (v := (1 : Int32)) (by decide) rfl ?_
  refine v_iadd C (pc' := 10) dX4_endsWithItsSpace_9 rfl ?_
  obtain ⟨t3, At3, E⟩ := bind_some E
  have Kt3 : V true G p l e { frames := 1, cells := 0, slots := 0, locals := 21 } s m args below meth c 1 (MQ below (QcA true G (some (aI r)) h) args s 0 0 (A_ G)) h 0 0 18 [some (aA 1 (some 0))] [aI t3] := by
    obtain ⟨z4, E⟩ := guardZ_some E
    cases E
    exact v_retz C hr hlk z4 dX4_endsWithItsSpace_18
  refine v_icmp_ne C (tg := 17) (pc' := 13) dX4_endsWithItsSpace_10 (by decide) rfl (fun q2 => ?_) (fun q2 => ?_)
  · rw [if_neg q2] at At3
    refine v_iconst C (pc' := 18) dX4_endsWithItsSpace_17 (v := (0 : Int32)) (by decide) rfl ?_
    cases At3
    exact Kt3
  · rw [if_pos q2] at At3
    refine v_iconst C (pc' := 14) dX4_endsWithItsSpace_13 (v := (1 : Int32)) (by decide) rfl ?_
    refine v_goto C (pc' := 18) dX4_endsWithItsSpace_14 (by decide) ?_
    cases At3
    exact Kt3

def line_argumentStart  (h : Hp) : Option Int32 :=
  (line_commandLength h).bind fun y1 =>
  some (y1 + (1 : Int32))
set_option maxHeartbeats 2000000 in
set_option maxRecDepth 20000 in
theorem c_line_argumentStart (l : Launch)  (h : Hp) (r : Int32)  (E : line_argumentStart  h = some r) : Ctr l yX4_argumentStart cX4_argumentStart 1 (some .int) 1 21 0 0 true [aA 1 (some 0)] h (some (aI r)) h := by
  rw [line_argumentStart] at E
  refine Ctr.of (ls0 := [some (aA 1 (some 0))]) (by decide +kernel) (Nat.le_of_ble_eq_true rfl) rfl ?_
  intro G p e s m args below meth c C hr hlk hnm
  refine v_aload_n C (pc' := 1) dX4_argumentStart_0 rfl rfl rfl ?_
  obtain ⟨y1, hy1, E⟩ := bind_some E
  refine v_callV C (pc' := 4) (rest := []) (c_line_commandLength l h _ hy1) mv_X4_19 rfl rfl lv0_1 dX4_argumentStart_1 rfl rfl rfl ⟨Nat.le_of_ble_eq_true rfl, Nat.le_of_ble_eq_true rfl⟩ (Nat.le_of_ble_eq_true rfl) ⟨Nat.le_of_ble_eq_true rfl, Nat.le_of_ble_eq_true rfl⟩ ?_
  refine V.st (st' := [aI y1]) rfl ?_
  refine v_iconst C (pc' := 5) dX4_argumentStart_4 (v := (1 : Int32)) (by decide) rfl ?_
  refine v_iadd C (pc' := 6) dX4_argumentStart_5 rfl ?_
  cases E
  exact v_reti C hr hlk dX4_argumentStart_6

def line_argumentLength  (h : Hp) : Option Int32 :=
  (line_argumentStart h).bind fun y1 =>
  some ((gI h (1, 0) 1) - y1)
set_option maxHeartbeats 2000000 in
set_option maxRecDepth 20000 in
theorem c_line_argumentLength (l : Launch)  (h : Hp) (r : Int32)  (E : line_argumentLength  h = some r) : Ctr l yX4_argumentLength cX4_argumentLength 1 (some .int) 2 41 0 0 true [aA 1 (some 0)] h (some (aI r)) h := by
  rw [line_argumentLength] at E
  refine Ctr.of (ls0 := [some (aA 1 (some 0))]) (by decide +kernel) (Nat.le_of_ble_eq_true rfl) rfl ?_
  intro G p e s m args below meth c C hr hlk hnm
  refine v_aload_n C (pc' := 1) dX4_argumentLength_0 rfl rfl rfl ?_
  refine v_getI C (pc' := 4) fl_X4_15 rfl (Or.inl rfl) lv0_1 dX4_argumentLength_1 rfl ?_
  refine v_aload_n C (pc' := 5) dX4_argumentLength_4 rfl rfl rfl ?_
  obtain ⟨y1, hy1, E⟩ := bind_some E
  refine v_callV C (pc' := 8) (rest := [aI (gI h (1, 0) 1)]) (c_line_argumentStart l h _ hy1) mv_X4_41 rfl rfl lv0_1 dX4_argumentLength_5 rfl rfl rfl ⟨Nat.le_of_ble_eq_true rfl, Nat.le_of_ble_eq_true rfl⟩ (Nat.le_of_ble_eq_true rfl) ⟨Nat.le_of_ble_eq_true rfl, Nat.le_of_ble_eq_true rfl⟩ ?_
  refine V.st (st' := [aI y1, aI (gI h (1, 0) 1)]) rfl ?_
  refine v_isub C (pc' := 9) dX4_argumentLength_8 rfl ?_
  cases E
  exact v_reti C hr hlk dX4_argumentLength_9

def line_hasArgument  (h : Hp) : Option Int32 :=
  (line_argumentLength h).bind fun y1 =>
  (if y1 ≤ 0 then
    some (0 : Int32)
  else
    some (1 : Int32)).bind fun t3 =>
  guardZ t3 <|
  some t3
set_option maxHeartbeats 2000000 in
set_option maxRecDepth 20000 in
theorem c_line_hasArgument (l : Launch)  (h : Hp) (r : Int32)  (E : line_hasArgument  h = some r) : Ctr l yX4_hasArgument cX4_hasArgument 1 (some .boolean) 3 61 0 0 true [aA 1 (some 0)] h (some (aI r)) h := by
  rw [line_hasArgument] at E
  refine Ctr.of (ls0 := [some (aA 1 (some 0))]) (by decide +kernel) (Nat.le_of_ble_eq_true rfl) rfl ?_
  intro G p e s m args below meth c C hr hlk hnm
  refine v_aload_n C (pc' := 1) dX4_hasArgument_0 rfl rfl rfl ?_
  obtain ⟨y1, hy1, E⟩ := bind_some E
  refine v_callV C (pc' := 4) (rest := []) (c_line_argumentLength l h _ hy1) mv_X4_38 rfl rfl lv0_1 dX4_hasArgument_1 rfl rfl rfl ⟨Nat.le_of_ble_eq_true rfl, Nat.le_of_ble_eq_true rfl⟩ (Nat.le_of_ble_eq_true rfl) ⟨Nat.le_of_ble_eq_true rfl, Nat.le_of_ble_eq_true rfl⟩ ?_
  refine V.st (st' := [aI y1]) rfl ?_
  obtain ⟨t3, At3, E⟩ := bind_some E
  have Kt3 : V true G p l e { frames := 3, cells := 0, slots := 0, locals := 61 } s m args below meth c 1 (MQ below (QcA true G (some (aI r)) h) args s 0 0 (A_ G)) h 0 0 12 [some (aA 1 (some 0))] [aI t3] := by
    obtain ⟨z4, E⟩ := guardZ_some E
    cases E
    exact v_retz C hr hlk z4 dX4_hasArgument_12
  refine v_if_le C (tg := 11) (pc' := 7) dX4_hasArgument_4 (by decide) rfl (fun q2 => ?_) (fun q2 => ?_)
  · rw [if_pos q2] at At3
    refine v_iconst C (pc' := 12) dX4_hasArgument_11 (v := (0 : Int32)) (by decide) rfl ?_
    cases At3
    exact Kt3
  · rw [if_neg q2] at At3
    refine v_iconst C (pc' := 8) dX4_hasArgument_7 (v := (1 : Int32)) (by decide) rfl ?_
    refine v_goto C (pc' := 12) dX4_hasArgument_8 (by decide) ?_
    cases At3
    exact Kt3

def path_stay  (h : Hp) : Option Hp :=
  some (sI (sI (sI h (8, 0) 1 (0 : Int32)) (8, 0) 2 (0 : Int32)) (8, 0) 3 (0 : Int32))
set_option maxHeartbeats 2000000 in
set_option maxRecDepth 20000 in
theorem c_path_stay (l : Launch)  (h : Hp) (h' : Hp)  (E : path_stay  h = some h') : Ctr l yX9_stay cX9_stay 1 none 0 0 0 0 true [aA 8 (some 0)] h none h' := by
  rw [path_stay] at E
  refine Ctr.of (ls0 := [some (aA 8 (some 0))]) (by decide +kernel) (Nat.le_of_ble_eq_true rfl) rfl ?_
  intro G p e s m args below meth c C hr hlk hnm
  refine v_aload_n C (pc' := 1) dX9_stay_0 rfl rfl rfl ?_
  refine v_iconst C (pc' := 2) dX9_stay_1 (v := (0 : Int32)) (by decide) rfl ?_
  refine v_putI C (pc' := 5) fp_X9_13 rfl rfl lv0_8 dX9_stay_2 rfl ?_
  refine v_aload_n C (pc' := 6) dX9_stay_5 rfl rfl rfl ?_
  refine v_iconst C (pc' := 7) dX9_stay_6 (v := (0 : Int32)) (by decide) rfl ?_
  refine v_putZ C (pc' := 10) fp_X9_17 rfl rfl lv0_8 dX9_stay_7 rfl (Or.inl rfl) ?_
  refine v_aload_n C (pc' := 11) dX9_stay_10 rfl rfl rfl ?_
  refine v_iconst C (pc' := 12) dX9_stay_11 (v := (0 : Int32)) (by decide) rfl ?_
  refine v_putZ C (pc' := 15) fp_X9_21 rfl rfl lv0_8 dX9_stay_12 rfl (Or.inl rfl) ?_
  cases E
  exact v_retv C hr hlk dX9_stay_15

def name_isSign_j24 (v0 : Int32) (h : Hp) : Option (Int32) :=
  if v0 = (45 : Int32) then
    some (1 : Int32)
  else
    if v0 = (46 : Int32) then
      some (1 : Int32)
    else
      some (0 : Int32)
def name_isSign_j12 (v0 : Int32) (h : Hp) : Option (Int32) :=
  if v0 < (48 : Int32) then
    name_isSign_j24 v0 h
  else
    if v0 ≤ (57 : Int32) then
      some (1 : Int32)
    else
      name_isSign_j24 v0 h
def name_isSign (p0 : Int32) (h : Hp) : Option Int32 :=
  (if p0 < (97 : Int32) then
    name_isSign_j12 p0 h
  else
    if p0 ≤ (122 : Int32) then
      some (1 : Int32)
    else
      name_isSign_j12 p0 h).bind fun t2 =>
  guardZ t2 <|
  some t2
set_option maxHeartbeats 2000000 in
set_option maxRecDepth 20000 in
theorem c_name_isSign (l : Launch) (p0 : Int32) (h : Hp) (r : Int32)  (E : name_isSign p0 h = some r) : Ctr l yX7_isSign cX7_isSign 1 (some .boolean) 0 0 0 0 true [aI p0] h (some (aI r)) h := by
  rw [name_isSign] at E
  refine Ctr.of (ls0 := [some (aI p0)]) (by decide +kernel) (Nat.le_of_ble_eq_true rfl) rfl ?_
  intro G p e s m args below meth c C hr hlk hnm
  refine v_iload_n C (pc' := 1) dX7_isSign_0 rfl rfl rfl ?_
  refine v_bipush C (pc' := 3) dX7_isSign_1 (v := (97 : Int32)) (by decide) rfl ?_
  obtain ⟨t2, At2, E⟩ := bind_some E
  have Kt2 : V true G p l e { frames := 0, cells := 0, slots := 0, locals := 0 } s m args below meth c 1 (MQ below (QcA true G (some (aI r)) h) args s 0 0 (A_ G)) h 0 0 41 [some (aI p0)] [aI t2] := by
    obtain ⟨z8, E⟩ := guardZ_some E
    cases E
    exact v_retz C hr hlk z8 dX7_isSign_41
  have J12 : name_isSign_j12 p0 h = some t2 → V true G p l e { frames := 0, cells := 0, slots := 0, locals := 0 } s m args below meth c 1 (MQ below (QcA true G (some (aI r)) h) args s 0 0 (A_ G)) h 0 0 12 [some (aI p0)] [] := by
    intro  Ej12
    rw [name_isSign_j12] at Ej12
    refine v_iload_n C (pc' := 13) dX7_isSign_12 rfl rfl rfl ?_
    refine v_bipush C (pc' := 15) dX7_isSign_13 (v := (48 : Int32)) (by decide) rfl ?_
    have J24 : name_isSign_j24 p0 h = some t2 → V true G p l e { frames := 0, cells := 0, slots := 0, locals := 0 } s m args below meth c 1 (MQ below (QcA true G (some (aI r)) h) args s 0 0 (A_ G)) h 0 0 24 [some (aI p0)] [] := by
      intro  Ej24
      rw [name_isSign_j24] at Ej24
      refine v_iload_n C (pc' := 25) dX7_isSign_24 rfl rfl rfl ?_
      refine v_bipush C (pc' := 27) dX7_isSign_25 (v := (45 : Int32)) (by decide) rfl ?_
      refine v_icmp_eq C (tg := 36) (pc' := 30) dX7_isSign_27 (by decide) rfl (fun q6 => ?_) (fun q6 => ?_)
      · rw [if_pos q6] at Ej24
        refine v_iconst C (pc' := 37) dX7_isSign_36 (v := (1 : Int32)) (by decide) rfl ?_
        refine v_goto C (pc' := 41) dX7_isSign_37 (by decide) ?_
        cases Ej24
        exact Kt2
      · rw [if_neg q6] at Ej24
        refine v_iload_n C (pc' := 31) dX7_isSign_30 rfl rfl rfl ?_
        refine v_bipush C (pc' := 33) dX7_isSign_31 (v := (46 : Int32)) (by decide) rfl ?_
        refine v_icmp_ne C (tg := 40) (pc' := 36) dX7_isSign_33 (by decide) rfl (fun q7 => ?_) (fun q7 => ?_)
        · rw [if_neg q7] at Ej24
          refine v_iconst C (pc' := 41) dX7_isSign_40 (v := (0 : Int32)) (by decide) rfl ?_
          cases Ej24
          exact Kt2
        · rw [if_pos q7] at Ej24
          refine v_iconst C (pc' := 37) dX7_isSign_36 (v := (1 : Int32)) (by decide) rfl ?_
          refine v_goto C (pc' := 41) dX7_isSign_37 (by decide) ?_
          cases Ej24
          exact Kt2
    refine v_icmp_lt C (tg := 24) (pc' := 18) dX7_isSign_15 (by decide) rfl (fun q4 => ?_) (fun q4 => ?_)
    · rw [if_pos q4] at Ej12
      exact J24  Ej12
    · rw [if_neg q4] at Ej12
      refine v_iload_n C (pc' := 19) dX7_isSign_18 rfl rfl rfl ?_
      refine v_bipush C (pc' := 21) dX7_isSign_19 (v := (57 : Int32)) (by decide) rfl ?_
      refine v_icmp_le C (tg := 36) (pc' := 24) dX7_isSign_21 (by decide) rfl (fun q5 => ?_) (fun q5 => ?_)
      · rw [if_pos q5] at Ej12
        refine v_iconst C (pc' := 37) dX7_isSign_36 (v := (1 : Int32)) (by decide) rfl ?_
        refine v_goto C (pc' := 41) dX7_isSign_37 (by decide) ?_
        cases Ej12
        exact Kt2
      · rw [if_neg q5] at Ej12
        exact J24  Ej12
  refine v_icmp_lt C (tg := 12) (pc' := 6) dX7_isSign_3 (by decide) rfl (fun q1 => ?_) (fun q1 => ?_)
  · rw [if_pos q1] at At2
    exact J12  At2
  · rw [if_neg q1] at At2
    refine v_iload_n C (pc' := 7) dX7_isSign_6 rfl rfl rfl ?_
    refine v_bipush C (pc' := 9) dX7_isSign_7 (v := (122 : Int32)) (by decide) rfl ?_
    refine v_icmp_le C (tg := 36) (pc' := 12) dX7_isSign_9 (by decide) rfl (fun q3 => ?_) (fun q3 => ?_)
    · rw [if_pos q3] at At2
      refine v_iconst C (pc' := 37) dX7_isSign_36 (v := (1 : Int32)) (by decide) rfl ?_
      refine v_goto C (pc' := 41) dX7_isSign_37 (by decide) ?_
      cases At2
      exact Kt2
    · rw [if_neg q3] at At2
      exact J12  At2

def name_partOfWord_l5 (v0 : Int64) (h : Hp) : Int64 × Int32 → Option ((Int64 ⊕ (Int64 × Int32)) ⊕ (Int64 × Int32))
  | (a2, a4) =>
    if (8 : Int32) ≤ a4 then
      some (.inl (.inr (a2, a4)))
    else
      if ((v0.toUInt64 >>> (((8 : Int32) * a4).toInt64.toUInt64 &&& Int64.toUInt64 63)).toInt64 &&& (255 : Int64)).toInt32 = 0 then
        some (.inl (.inl a2))
      else
        if (6 : Int32) ≤ a4 then
          some (.inl (.inl (0 : Int64)))
        else
          (name_isSign ((v0.toUInt64 >>> (((8 : Int32) * a4).toInt64.toUInt64 &&& Int64.toUInt64 63)).toInt64 &&& (255 : Int64)).toInt32 h).bind fun y4 =>
          if y4 = 0 then
            some (.inl (.inl (0 : Int64)))
          else
            some (.inr ((a2 ||| (((v0.toUInt64 >>> (((8 : Int32) * a4).toInt64.toUInt64 &&& Int64.toUInt64 63)).toInt64 &&& (255 : Int64)).toInt32.toInt64 <<< (((8 : Int32) * ((5 : Int32) - a4)).toInt64 &&& 63))), (a4 + (1 : Int32))))
def name_partOfWord (p0 : Int64) (h : Hp) : Option Int64 :=
  (iter (name_partOfWord_l5 p0 h) FU ((0 : Int64), (0 : Int32))).bind fun t6 =>
  t6.elim (fun r => some r) fun ut6 =>
  some ut6.1
set_option maxHeartbeats 2000000 in
set_option maxRecDepth 20000 in
theorem c_name_partOfWord (l : Launch) (p0 : Int64) (h : Hp) (r : Int64)  (E : name_partOfWord p0 h = some r) : Ctr l yX7_partOfWord cX7_partOfWord 6 (some .long) 1 20 0 0 true [aL p0] h (some (aL r)) h := by
  rw [name_partOfWord] at E
  refine Ctr.of (ls0 := [some (aL p0), none, none, none, none, none]) (by decide +kernel) (Nat.le_of_ble_eq_true rfl) rfl ?_
  intro G p e s m args below meth c C hr hlk hnm
  refine v_lconst C (pc' := 1) dX7_partOfWord_0 (v := (0 : Int64)) (by decide) rfl ?_
  refine v_lstore2 C (pc' := 2) dX7_partOfWord_1 (by decide) rfl rfl ?_
  refine v_iconst C (pc' := 3) dX7_partOfWord_2 (v := (0 : Int32)) (by decide) rfl ?_
  refine v_istore4 C (pc' := 5) dX7_partOfWord_3 (by decide) rfl rfl ?_
  obtain ⟨t1, It1, E⟩ := bind_some E
  have Kt1 : ∀ ut1, t1 = .inr ut1 → V true G p l e { frames := 1, cells := 0, slots := 0, locals := 20 } s m args below meth c 6 (MQ below (QcA true G (some (aL r)) h) args s 0 0 (A_ G)) h 0 0 70 [some (aL p0), none, some (aL ut1.1), none, some (aI ut1.2), none] [] := by
    intro ut1 hu
    rw [hu] at E
    simp only [Sum.elim_inr] at E
    refine v_lload_n C (pc' := 71) dX7_partOfWord_70 rfl rfl rfl ?_
    cases E
    exact v_retl C hr hlk dX7_partOfWord_71
  refine iter_V (P := fun st1 : Int64 × Int32 => V true G p l e { frames := 1, cells := 0, slots := 0, locals := 20 } s m args below meth c 6 (MQ below (QcA true G (some (aL r)) h) args s 0 0 (A_ G)) h 0 0 5 [some (aL p0), none, some (aL st1.1), none, some (aI st1.2), none] []) ?_ _ _ It1
  rintro ⟨a2t1, a4t1⟩ ot1 Lt1 kxt1 kst1
  rw [name_partOfWord_l5] at Lt1
  show V true G p l e { frames := 1, cells := 0, slots := 0, locals := 20 } s m args below meth c 6 (MQ below (QcA true G (some (aL r)) h) args s 0 0 (A_ G)) h 0 0 5 [some (aL p0), none, some (aL a2t1), none, some (aI a4t1), none] []
  refine v_iload C (pc' := 7) dX7_partOfWord_5 rfl rfl ?_
  refine v_bipush C (pc' := 9) dX7_partOfWord_7 (v := (8 : Int32)) (by decide) rfl ?_
  refine v_icmp_ge C (tg := 70) (pc' := 12) dX7_partOfWord_9 (by decide) rfl (fun q2 => ?_) (fun q2 => ?_)
  · rw [if_pos q2] at Lt1
    cases Lt1
    have z := kxt1 _ rfl
    exact Kt1 _ z.symm
  · rw [if_neg q2] at Lt1
    refine v_lload_n C (pc' := 13) dX7_partOfWord_12 rfl rfl rfl ?_
    refine v_bipush C (pc' := 15) dX7_partOfWord_13 (v := (8 : Int32)) (by decide) rfl ?_
    refine v_iload C (pc' := 17) dX7_partOfWord_15 rfl rfl ?_
    refine v_imul C (pc' := 18) dX7_partOfWord_17 rfl ?_
    refine v_lushr C (pc' := 19) dX7_partOfWord_18 rfl ?_
    refine v_ldc2 C (pc' := 22) dX7_partOfWord_19 (v := (255 : Int64)) (TT_of (i := 357) (by decide +kernel) (by decide +kernel)) rfl ?_
    refine v_land C (pc' := 23) dX7_partOfWord_22 rfl ?_
    refine v_l2i C (pc' := 24) dX7_partOfWord_23 rfl ?_
    refine v_istore5 C (pc' := 26) dX7_partOfWord_24 (by decide) rfl rfl ?_
    refine v_iload C (pc' := 28) dX7_partOfWord_26 rfl rfl ?_
    refine v_if_ne C (tg := 33) (pc' := 31) dX7_partOfWord_28 (by decide) rfl (fun q3 => ?_) (fun q3 => ?_)
    · rw [if_neg q3] at Lt1
      refine v_iload C (pc' := 35) dX7_partOfWord_33 rfl rfl ?_
      refine v_bipush C (pc' := 37) dX7_partOfWord_35 (v := (6 : Int32)) (by decide) rfl ?_
      refine v_icmp_ge C (tg := 48) (pc' := 40) dX7_partOfWord_37 (by decide) rfl (fun q4 => ?_) (fun q4 => ?_)
      · rw [if_pos q4] at Lt1
        refine v_lconst C (pc' := 49) dX7_partOfWord_48 (v := (0 : Int64)) (by decide) rfl ?_
        cases Lt1
        have z := kxt1 _ rfl
        rw [← z] at E
        simp only [Sum.elim_inl] at E
        cases E
        exact v_retl C hr hlk dX7_partOfWord_49
      · rw [if_neg q4] at Lt1
        refine v_iload C (pc' := 42) dX7_partOfWord_40 rfl rfl ?_
        obtain ⟨y5, hy5, Lt1⟩ := bind_some Lt1
        refine v_callS C (pc' := 45) (rest := []) (c_name_isSign l ((p0.toUInt64 >>> (((8 : Int32) * a4t1).toInt64.toUInt64 &&& Int64.toUInt64 63)).toInt64 &&& (255 : Int64)).toInt32 h _ hy5) ms_X7_11 dX7_partOfWord_42 rfl rfl rfl ⟨Nat.le_of_ble_eq_true rfl, Nat.le_of_ble_eq_true rfl⟩ (Nat.le_of_ble_eq_true rfl) ⟨Nat.le_of_ble_eq_true rfl, Nat.le_of_ble_eq_true rfl⟩ ?_
        refine V.st (st' := [aI y5]) rfl ?_
        refine v_if_ne C (tg := 50) (pc' := 48) dX7_partOfWord_45 (by decide) rfl (fun q6 => ?_) (fun q6 => ?_)
        · rw [if_neg q6] at Lt1
          refine v_lload_n C (pc' := 51) dX7_partOfWord_50 rfl rfl rfl ?_
          refine v_iload C (pc' := 53) dX7_partOfWord_51 rfl rfl ?_
          refine v_i2l C (pc' := 54) dX7_partOfWord_53 rfl ?_
          refine v_bipush C (pc' := 56) dX7_partOfWord_54 (v := (8 : Int32)) (by decide) rfl ?_
          refine v_iconst C (pc' := 57) dX7_partOfWord_56 (v := (5 : Int32)) (by decide) rfl ?_
          refine v_iload C (pc' := 59) dX7_partOfWord_57 rfl rfl ?_
          refine v_isub C (pc' := 60) dX7_partOfWord_59 rfl ?_
          refine v_imul C (pc' := 61) dX7_partOfWord_60 rfl ?_
          refine v_lshl C (pc' := 62) dX7_partOfWord_61 rfl ?_
          refine v_lor C (pc' := 63) dX7_partOfWord_62 rfl ?_
          refine v_lstore2 C (pc' := 64) dX7_partOfWord_63 (by decide) rfl rfl ?_
          refine v_iinc4 C (pc' := 67) dX7_partOfWord_64 (v := (a4t1 + (1 : Int32))) (by rw [show Int32.ofInt 1 = (1 : Int32) by decide]) (by decide) rfl rfl ?_
          refine v_goto C (pc' := 5) dX7_partOfWord_67 (by decide) ?_
          cases Lt1
          exact V.ls (ms := [true, false, true, false, true, false]) rfl (kst1 _ rfl)
        · rw [if_pos q6] at Lt1
          refine v_lconst C (pc' := 49) dX7_partOfWord_48 (v := (0 : Int64)) (by decide) rfl ?_
          cases Lt1
          have z := kxt1 _ rfl
          rw [← z] at E
          simp only [Sum.elim_inl] at E
          cases E
          exact v_retl C hr hlk dX7_partOfWord_49
    · rw [if_pos q3] at Lt1
      refine v_lload_n C (pc' := 32) dX7_partOfWord_31 rfl rfl rfl ?_
      cases Lt1
      have z := kxt1 _ rfl
      rw [← z] at E
      simp only [Sum.elim_inl] at E
      cases E
      exact v_retl C hr hlk dX7_partOfWord_32

def name_partOfLine_l15 (v1 : Int32) (v2 : Int32) (h : Hp) : Int64 × Int32 → Option ((Int64 × Int32) ⊕ (Int64 × Int32))
  | (a3, a5) =>
    if v2 ≤ a5 then
      some (.inl (a3, a5))
    else
      (line_at a5 h).bind fun y3 =>
      some (.inr ((a3 ||| (y3.toInt64 <<< (((8 : Int32) * (a5 - v1)).toInt64 &&& 63))), (a5 + (1 : Int32))))
def name_partOfLine (p1 : Int32) (p2 : Int32) (h : Hp) : Option Int64 :=
  if (p2 - p1) ≤ (6 : Int32) then
    (iter (name_partOfLine_l15 p1 p2 h) FU ((0 : Int64), p1)).bind fun t4 =>
    (name_partOfWord t4.1 h).bind fun y5 =>
    some y5
  else
    some (0 : Int64)
set_option maxHeartbeats 2000000 in
set_option maxRecDepth 20000 in
theorem c_name_partOfLine (l : Launch) (p1 : Int32) (p2 : Int32) (h : Hp) (r : Int64)  (E : name_partOfLine p1 p2 h = some r) : Ctr l yX7_partOfLine cX7_partOfLine 6 (some .long) 2 45 0 0 true [aA 1 (some 0), aI p1, aI p2] h (some (aL r)) h := by
  rw [name_partOfLine] at E
  refine Ctr.of (ls0 := [some (aA 1 (some 0)), some (aI p1), some (aI p2), none, none, none]) (by decide +kernel) (Nat.le_of_ble_eq_true rfl) rfl ?_
  intro G p e s m args below meth c C hr hlk hnm
  refine v_iload_n C (pc' := 1) dX7_partOfLine_0 rfl rfl rfl ?_
  refine v_iload_n C (pc' := 2) dX7_partOfLine_1 rfl rfl rfl ?_
  refine v_isub C (pc' := 3) dX7_partOfLine_2 rfl ?_
  refine v_bipush C (pc' := 5) dX7_partOfLine_3 (v := (6 : Int32)) (by decide) rfl ?_
  refine v_icmp_le C (tg := 10) (pc' := 8) dX7_partOfLine_5 (by decide) rfl (fun q1 => ?_) (fun q1 => ?_)
  · rw [if_pos q1] at E
    refine v_lconst C (pc' := 11) dX7_partOfLine_10 (v := (0 : Int64)) (by decide) rfl ?_
    refine v_lstore3 C (pc' := 12) dX7_partOfLine_11 (by decide) rfl rfl ?_
    refine v_iload_n C (pc' := 13) dX7_partOfLine_12 rfl rfl rfl ?_
    refine v_istore5 C (pc' := 15) dX7_partOfLine_13 (by decide) rfl rfl ?_
    obtain ⟨t2, It2, E⟩ := bind_some E
    have Kt2 : V true G p l e { frames := 2, cells := 0, slots := 0, locals := 45 } s m args below meth c 6 (MQ below (QcA true G (some (aL r)) h) args s 0 0 (A_ G)) h 0 0 45 [some (aA 1 (some 0)), some (aI p1), some (aI p2), some (aL t2.1), none, some (aI t2.2)] [] := by
      refine v_lload_n C (pc' := 46) dX7_partOfLine_45 rfl rfl rfl ?_
      obtain ⟨y3, hy3, E⟩ := bind_some E
      refine v_callS C (pc' := 49) (rest := []) (c_name_partOfWord l t2.1 h _ hy3) ms_X7_21 dX7_partOfLine_46 rfl rfl rfl ⟨Nat.le_of_ble_eq_true rfl, Nat.le_of_ble_eq_true rfl⟩ (Nat.le_of_ble_eq_true rfl) ⟨Nat.le_of_ble_eq_true rfl, Nat.le_of_ble_eq_true rfl⟩ ?_
      refine V.st (st' := [aL y3]) rfl ?_
      cases E
      exact v_retl C hr hlk dX7_partOfLine_49
    refine iter_V (P := fun st2 : Int64 × Int32 => V true G p l e { frames := 2, cells := 0, slots := 0, locals := 45 } s m args below meth c 6 (MQ below (QcA true G (some (aL r)) h) args s 0 0 (A_ G)) h 0 0 15 [some (aA 1 (some 0)), some (aI p1), some (aI p2), some (aL st2.1), none, some (aI st2.2)] []) ?_ _ _ It2
    rintro ⟨a3t2, a5t2⟩ ot2 Lt2 kxt2 kst2
    rw [name_partOfLine_l15] at Lt2
    show V true G p l e { frames := 2, cells := 0, slots := 0, locals := 45 } s m args below meth c 6 (MQ below (QcA true G (some (aL r)) h) args s 0 0 (A_ G)) h 0 0 15 [some (aA 1 (some 0)), some (aI p1), some (aI p2), some (aL a3t2), none, some (aI a5t2)] []
    refine v_iload C (pc' := 17) dX7_partOfLine_15 rfl rfl ?_
    refine v_iload_n C (pc' := 18) dX7_partOfLine_17 rfl rfl rfl ?_
    refine v_icmp_ge C (tg := 45) (pc' := 21) dX7_partOfLine_18 (by decide) rfl (fun q4 => ?_) (fun q4 => ?_)
    · rw [if_pos q4] at Lt2
      cases Lt2
      have z := kxt2 _ rfl
      subst z
      exact Kt2
    · rw [if_neg q4] at Lt2
      refine v_lload_n C (pc' := 22) dX7_partOfLine_21 rfl rfl rfl ?_
      refine v_aload_n C (pc' := 23) dX7_partOfLine_22 rfl rfl rfl ?_
      refine v_iload C (pc' := 25) dX7_partOfLine_23 rfl rfl ?_
      obtain ⟨y5, hy5, Lt2⟩ := bind_some Lt2
      refine v_callV C (pc' := 28) (rest := [aL a3t2]) (c_line_at l a5t2 h _ hy5) mv_X7_15 rfl rfl lv0_1 dX7_partOfLine_25 rfl rfl rfl ⟨Nat.le_of_ble_eq_true rfl, Nat.le_of_ble_eq_true rfl⟩ (Nat.le_of_ble_eq_true rfl) ⟨Nat.le_of_ble_eq_true rfl, Nat.le_of_ble_eq_true rfl⟩ ?_
      refine V.st (st' := [aI y5, aL a3t2]) rfl ?_
      refine v_i2l C (pc' := 29) dX7_partOfLine_28 rfl ?_
      refine v_bipush C (pc' := 31) dX7_partOfLine_29 (v := (8 : Int32)) (by decide) rfl ?_
      refine v_iload C (pc' := 33) dX7_partOfLine_31 rfl rfl ?_
      refine v_iload_n C (pc' := 34) dX7_partOfLine_33 rfl rfl rfl ?_
      refine v_isub C (pc' := 35) dX7_partOfLine_34 rfl ?_
      refine v_imul C (pc' := 36) dX7_partOfLine_35 rfl ?_
      refine v_lshl C (pc' := 37) dX7_partOfLine_36 rfl ?_
      refine v_lor C (pc' := 38) dX7_partOfLine_37 rfl ?_
      refine v_lstore3 C (pc' := 39) dX7_partOfLine_38 (by decide) rfl rfl ?_
      refine v_iinc5 C (pc' := 42) dX7_partOfLine_39 (v := (a5t2 + (1 : Int32))) (by rw [show Int32.ofInt 1 = (1 : Int32) by decide]) (by decide) rfl rfl ?_
      refine v_goto C (pc' := 15) dX7_partOfLine_42 (by decide) ?_
      cases Lt2
      exact kst2 _ rfl
  · rw [if_neg q1] at E
    refine v_lconst C (pc' := 9) dX7_partOfLine_8 (v := (0 : Int64)) (by decide) rfl ?_
    cases E
    exact v_retl C hr hlk dX7_partOfLine_9

def name_isDots (p0 : Int64) (h : Hp) : Option Int32 :=
  (if p0 = (50577534877696 : Int64) then
    some (1 : Int32)
  else
    if p0 = (50775103373312 : Int64) then
      some (1 : Int32)
    else
      some (0 : Int32)).bind fun t2 =>
  guardZ t2 <|
  some t2
set_option maxHeartbeats 2000000 in
set_option maxRecDepth 20000 in
theorem c_name_isDots (l : Launch) (p0 : Int64) (h : Hp) (r : Int32)  (E : name_isDots p0 h = some r) : Ctr l yX7_isDots cX7_isDots 2 (some .boolean) 0 0 0 0 true [aL p0] h (some (aI r)) h := by
  rw [name_isDots] at E
  refine Ctr.of (ls0 := [some (aL p0), none]) (by decide +kernel) (Nat.le_of_ble_eq_true rfl) rfl ?_
  intro G p e s m args below meth c C hr hlk hnm
  refine v_lload_n C (pc' := 1) dX7_isDots_0 rfl rfl rfl ?_
  refine v_ldc2 C (pc' := 4) dX7_isDots_1 (v := (50577534877696 : Int64)) (TT_of (i := 367) (by decide +kernel) (by decide +kernel)) rfl ?_
  refine v_lcmp C (pc' := 5) dX7_isDots_4 rfl ?_
  obtain ⟨t2, At2, E⟩ := bind_some E
  have Kt2 : V true G p l e { frames := 0, cells := 0, slots := 0, locals := 0 } s m args below meth c 2 (MQ below (QcA true G (some (aI r)) h) args s 0 0 (A_ G)) h 0 0 21 [some (aL p0), none] [aI t2] := by
    obtain ⟨z4, E⟩ := guardZ_some E
    cases E
    exact v_retz C hr hlk z4 dX7_isDots_21
  refine v_if_eq C (tg := 16) (pc' := 8) dX7_isDots_5 (by decide) rfl (fun q1 => ?_) (fun q1 => ?_)
  · rw [lgc_eq] at q1
    rw [if_pos q1] at At2
    refine v_iconst C (pc' := 17) dX7_isDots_16 (v := (1 : Int32)) (by decide) rfl ?_
    refine v_goto C (pc' := 21) dX7_isDots_17 (by decide) ?_
    cases At2
    exact Kt2
  · rw [lgc_eq] at q1
    rw [if_neg q1] at At2
    refine v_lload_n C (pc' := 9) dX7_isDots_8 rfl rfl rfl ?_
    refine v_ldc2 C (pc' := 12) dX7_isDots_9 (v := (50775103373312 : Int64)) (TT_of (i := 368) (by decide +kernel) (by decide +kernel)) rfl ?_
    refine v_lcmp C (pc' := 13) dX7_isDots_12 rfl ?_
    refine v_if_ne C (tg := 20) (pc' := 16) dX7_isDots_13 (by decide) rfl (fun q3 => ?_) (fun q3 => ?_)
    · rw [lgc_eq] at q3
      rw [if_neg q3] at At2
      refine v_iconst C (pc' := 21) dX7_isDots_20 (v := (0 : Int32)) (by decide) rfl ?_
      cases At2
      exact Kt2
    · rw [lgc_eq] at q3
      rw [if_pos q3] at At2
      refine v_iconst C (pc' := 17) dX7_isDots_16 (v := (1 : Int32)) (by decide) rfl ?_
      refine v_goto C (pc' := 21) dX7_isDots_17 (by decide) ?_
      cases At2
      exact Kt2

def name_withoutDots (p0 : Int64) (h : Hp) : Option Int64 :=
  (name_isDots p0 h).bind fun y1 =>
  (if y1 = 0 then
    some p0
  else
    some (0 : Int64)).bind fun t3 =>
  some t3
set_option maxHeartbeats 2000000 in
set_option maxRecDepth 20000 in
theorem c_name_withoutDots (l : Launch) (p0 : Int64) (h : Hp) (r : Int64)  (E : name_withoutDots p0 h = some r) : Ctr l yX7_withoutDots cX7_withoutDots 2 (some .long) 1 21 0 0 true [aL p0] h (some (aL r)) h := by
  rw [name_withoutDots] at E
  refine Ctr.of (ls0 := [some (aL p0), none]) (by decide +kernel) (Nat.le_of_ble_eq_true rfl) rfl ?_
  intro G p e s m args below meth c C hr hlk hnm
  refine v_lload_n C (pc' := 1) dX7_withoutDots_0 rfl rfl rfl ?_
  obtain ⟨y1, hy1, E⟩ := bind_some E
  refine v_callS C (pc' := 4) (rest := []) (c_name_isDots l p0 h _ hy1) ms_X7_29 dX7_withoutDots_1 rfl rfl rfl ⟨Nat.le_of_ble_eq_true rfl, Nat.le_of_ble_eq_true rfl⟩ (Nat.le_of_ble_eq_true rfl) ⟨Nat.le_of_ble_eq_true rfl, Nat.le_of_ble_eq_true rfl⟩ ?_
  refine V.st (st' := [aI y1]) rfl ?_
  obtain ⟨t3, At3, E⟩ := bind_some E
  have Kt3 : V true G p l e { frames := 1, cells := 0, slots := 0, locals := 21 } s m args below meth c 2 (MQ below (QcA true G (some (aL r)) h) args s 0 0 (A_ G)) h 0 0 12 [some (aL p0), none] [aL t3] := by
    cases E
    exact v_retl C hr hlk dX7_withoutDots_12
  refine v_if_eq C (tg := 11) (pc' := 7) dX7_withoutDots_4 (by decide) rfl (fun q2 => ?_) (fun q2 => ?_)
  · rw [if_pos q2] at At3
    refine v_lload_n C (pc' := 12) dX7_withoutDots_11 rfl rfl rfl ?_
    cases At3
    exact Kt3
  · rw [if_neg q2] at At3
    refine v_lconst C (pc' := 8) dX7_withoutDots_7 (v := (0 : Int64)) (by decide) rfl ?_
    refine v_goto C (pc' := 12) dX7_withoutDots_8 (by decide) ?_
    cases At3
    exact Kt3

def line_argumentName  (h : Hp) : Option Int64 :=
  (line_argumentStart h).bind fun y1 =>
  (name_partOfLine y1 (gI h (1, 0) 1) h).bind fun y2 =>
  (name_withoutDots y2 h).bind fun y3 =>
  some y3
set_option maxHeartbeats 2000000 in
set_option maxRecDepth 20000 in
theorem c_line_argumentName (l : Launch)  (h : Hp) (r : Int64)  (E : line_argumentName  h = some r) : Ctr l yX4_argumentName cX4_argumentName 1 (some .long) 3 70 0 0 true [aA 1 (some 0)] h (some (aL r)) h := by
  rw [line_argumentName] at E
  refine Ctr.of (ls0 := [some (aA 1 (some 0))]) (by decide +kernel) (Nat.le_of_ble_eq_true rfl) rfl ?_
  intro G p e s m args below meth c C hr hlk hnm
  refine v_aload_n C (pc' := 1) dX4_argumentName_0 rfl rfl rfl ?_
  refine v_aload_n C (pc' := 2) dX4_argumentName_1 rfl rfl rfl ?_
  obtain ⟨y1, hy1, E⟩ := bind_some E
  refine v_callV C (pc' := 5) (rest := [aA 1 (some 0)]) (c_line_argumentStart l h _ hy1) mv_X4_41 rfl rfl lv0_1 dX4_argumentName_2 rfl rfl rfl ⟨Nat.le_of_ble_eq_true rfl, Nat.le_of_ble_eq_true rfl⟩ (Nat.le_of_ble_eq_true rfl) ⟨Nat.le_of_ble_eq_true rfl, Nat.le_of_ble_eq_true rfl⟩ ?_
  refine V.st (st' := [aI y1, aA 1 (some 0)]) rfl ?_
  refine v_aload_n C (pc' := 6) dX4_argumentName_5 rfl rfl rfl ?_
  refine v_getI C (pc' := 9) fl_X4_15 rfl (Or.inl rfl) lv0_1 dX4_argumentName_6 rfl ?_
  obtain ⟨y2, hy2, E⟩ := bind_some E
  refine v_callS C (pc' := 12) (rest := []) (c_name_partOfLine l y1 (gI h (1, 0) 1) h _ hy2) ms_X4_44 dX4_argumentName_9 rfl rfl rfl ⟨Nat.le_of_ble_eq_true rfl, Nat.le_of_ble_eq_true rfl⟩ (Nat.le_of_ble_eq_true rfl) ⟨Nat.le_of_ble_eq_true rfl, Nat.le_of_ble_eq_true rfl⟩ ?_
  refine V.st (st' := [aL y2]) rfl ?_
  obtain ⟨y3, hy3, E⟩ := bind_some E
  refine v_callS C (pc' := 15) (rest := []) (c_name_withoutDots l y2 h _ hy3) ms_X4_50 dX4_argumentName_12 rfl rfl rfl ⟨Nat.le_of_ble_eq_true rfl, Nat.le_of_ble_eq_true rfl⟩ (Nat.le_of_ble_eq_true rfl) ⟨Nat.le_of_ble_eq_true rfl, Nat.le_of_ble_eq_true rfl⟩ ?_
  refine V.st (st' := [aL y3]) rfl ?_
  cases E
  exact v_retl C hr hlk dX4_argumentName_15

def line_length  (h : Hp) : Option Int32 :=
  some (gI h (1, 0) 1)
set_option maxHeartbeats 2000000 in
set_option maxRecDepth 20000 in
theorem c_line_length (l : Launch)  (h : Hp) (r : Int32)  (E : line_length  h = some r) : Ctr l yX4_length cX4_length 1 (some .int) 0 0 0 0 true [aA 1 (some 0)] h (some (aI r)) h := by
  rw [line_length] at E
  refine Ctr.of (ls0 := [some (aA 1 (some 0))]) (by decide +kernel) (Nat.le_of_ble_eq_true rfl) rfl ?_
  intro G p e s m args below meth c C hr hlk hnm
  refine v_aload_n C (pc' := 1) dX4_length_0 rfl rfl rfl ?_
  refine v_getI C (pc' := 4) fl_X4_15 rfl (Or.inl rfl) lv0_1 dX4_length_1 rfl ?_
  cases E
  exact v_reti C hr hlk dX4_length_4

def path_addPart (p1 : Int64) (h : Hp) : Option (Int32 × Hp) :=
  if p1 = (0 : Int64) then
    some ((0 : Int32), h)
  else
    if (gI h (8, 0) 1) < (16 : Int32) then
      guardB (gI h (8, 0) 1) 16 <|
      some ((1 : Int32), (sI (sL h (9, 0) (gI h (8, 0) 1).toNatClampNeg p1) (8, 0) 1 ((gI (sL h (9, 0) (gI h (8, 0) 1).toNatClampNeg p1) (8, 0) 1) + (1 : Int32))))
    else
      some ((0 : Int32), h)
set_option maxHeartbeats 2000000 in
set_option maxRecDepth 20000 in
theorem c_path_addPart (l : Launch) (p1 : Int64) (h : Hp) (r : Int32) (h' : Hp)  (E : path_addPart p1 h = some (r, h')) : Ctr l yX9_addPart cX9_addPart 3 (some .boolean) 0 0 0 0 true [aA 8 (some 0), aL p1] h (some (aI r)) h' := by
  rw [path_addPart] at E
  refine Ctr.of (ls0 := [some (aA 8 (some 0)), some (aL p1), none]) (by decide +kernel) (Nat.le_of_ble_eq_true rfl) rfl ?_
  intro G p e s m args below meth c C hr hlk hnm
  refine v_lload_n C (pc' := 1) dX9_addPart_0 rfl rfl rfl ?_
  refine v_lconst C (pc' := 2) dX9_addPart_1 (v := (0 : Int64)) (by decide) rfl ?_
  refine v_lcmp C (pc' := 3) dX9_addPart_2 rfl ?_
  refine v_if_eq C (tg := 18) (pc' := 6) dX9_addPart_3 (by decide) rfl (fun q1 => ?_) (fun q1 => ?_)
  · rw [lgc_eq] at q1
    rw [if_pos q1] at E
    refine v_iconst C (pc' := 19) dX9_addPart_18 (v := (0 : Int32)) (by decide) rfl ?_
    cases E
    exact v_retz C hr hlk (Or.inl rfl) dX9_addPart_19
  · rw [lgc_eq] at q1
    rw [if_neg q1] at E
    refine v_aload_n C (pc' := 7) dX9_addPart_6 rfl rfl rfl ?_
    refine v_getI C (pc' := 10) fl_X9_13 rfl (Or.inl rfl) lv0_8 dX9_addPart_7 rfl ?_
    refine v_aload_n C (pc' := 11) dX9_addPart_10 rfl rfl rfl ?_
    refine v_getF C (pc' := 14) rfl fl_X9_7 rfl rfl (t2 := 9) rfl (j := 0) rfl u0_8 dX9_addPart_11 rfl ?_
    refine v_alen C (pc' := 15) (t := 9) rfl (by decide) lv0_9 (v := (16 : Int32)) (by decide) dX9_addPart_14 rfl ?_
    refine v_icmp_lt C (tg := 20) (pc' := 18) dX9_addPart_15 (by decide) rfl (fun q2 => ?_) (fun q2 => ?_)
    · rw [if_pos q2] at E
      refine v_aload_n C (pc' := 21) dX9_addPart_20 rfl rfl rfl ?_
      refine v_getF C (pc' := 24) rfl fl_X9_7 rfl rfl (t2 := 9) rfl (j := 0) rfl u0_8 dX9_addPart_21 rfl ?_
      refine v_aload_n C (pc' := 25) dX9_addPart_24 rfl rfl rfl ?_
      refine v_getI C (pc' := 28) fl_X9_13 rfl (Or.inl rfl) lv0_8 dX9_addPart_25 rfl ?_
      refine v_lload_n C (pc' := 29) dX9_addPart_28 rfl rfl rfl ?_
      obtain ⟨g3, E⟩ := guardB_some E
      refine v_last C (pc' := 30) (t := 9) rfl lv0_9 g3 dX9_addPart_29 rfl ?_
      refine v_aload_n C (pc' := 31) dX9_addPart_30 rfl rfl rfl ?_
      refine v_dup C (pc' := 32) dX9_addPart_31 rfl rfl ?_
      refine v_getI C (pc' := 35) fl_X9_13 rfl (Or.inl rfl) lv0_8 dX9_addPart_32 rfl ?_
      refine v_iconst C (pc' := 36) dX9_addPart_35 (v := (1 : Int32)) (by decide) rfl ?_
      refine v_iadd C (pc' := 37) dX9_addPart_36 rfl ?_
      refine v_putI C (pc' := 40) fp_X9_13 rfl rfl lv0_8 dX9_addPart_37 rfl ?_
      refine v_iconst C (pc' := 41) dX9_addPart_40 (v := (1 : Int32)) (by decide) rfl ?_
      cases E
      exact v_retz C hr hlk (Or.inr rfl) dX9_addPart_41
    · rw [if_neg q2] at E
      refine v_iconst C (pc' := 19) dX9_addPart_18 (v := (0 : Int32)) (by decide) rfl ?_
      cases E
      exact v_retz C hr hlk (Or.inl rfl) dX9_addPart_19

def path_read_l46 (v3 : Int32) : Int32 × Int32 × Hp → Option (((Int32 × Hp) ⊕ (Int32 × Int32 × Hp)) ⊕ (Int32 × Int32 × Hp))
  | (a2, a4, h) =>
    if v3 ≤ a4 then
      some (.inl (.inr (a2, a4, h)))
    else
      (line_at a4 h).bind fun y11 =>
      if y11 = (47 : Int32) then
        (name_partOfLine a2 a4 h).bind fun y13 =>
        (path_addPart y13 h).bind fun y14 =>
        if y14.1 = 0 then
          some (.inl (.inl ((0 : Int32), y14.2)))
        else
          some (.inr ((a4 + (1 : Int32)), (a4 + (1 : Int32)), y14.2))
      else
        some (.inr (a2, (a4 + (1 : Int32)), h))
def path_read  (h : Hp) : Option (Int32 × Hp) :=
  (path_stay h).bind fun y1 =>
  (line_argumentStart y1).bind fun y2 =>
  (line_length y1).bind fun y3 =>
  (line_at y2 y1).bind fun y4 =>
  (if y4 = (47 : Int32) then
    some (1 : Int32)
  else
    some (0 : Int32)).bind fun t6 =>
  guardZ t6 <|
  (if (gI (sI y1 (8, 0) 2 t6) (8, 0) 2) = 0 then
    some y2
  else
    some (y2 + (1 : Int32))).bind fun t9 =>
  (iter (path_read_l46 y3) FU (t9, t9, (sI y1 (8, 0) 2 t6))).bind fun t16 =>
  t16.elim (fun r => some r) fun ut16 =>
  (if (gI ut16.2.2 (8, 0) 1) ≤ 0 then
    some (0 : Int32)
  else
    if ut16.1 = y3 then
      some (1 : Int32)
    else
      some (0 : Int32)).bind fun t18 =>
  guardZ t18 <|
  (if ut16.1 = y3 then
    some ((1 : Int32), (sI ut16.2.2 (8, 0) 3 t18))
  else
    (name_partOfLine ut16.1 y3 (sI ut16.2.2 (8, 0) 3 t18)).bind fun y23 =>
    (path_addPart y23 (sI ut16.2.2 (8, 0) 3 t18)).bind fun y24 =>
    if y24.1 = 0 then
      some ((0 : Int32), y24.2)
    else
      some ((1 : Int32), y24.2)).bind fun t22 =>
  guardZ t22.1 <|
  some (t22.1, t22.2)
set_option maxHeartbeats 2000000 in
set_option maxRecDepth 20000 in
theorem c_path_read (l : Launch)  (h : Hp) (r : Int32) (h' : Hp)  (E : path_read  h = some (r, h')) : Ctr l yX9_read cX9_read 5 (some .boolean) 3 70 0 0 true [aA 8 (some 0), aA 1 (some 0)] h (some (aI r)) h' := by
  rw [path_read] at E
  refine Ctr.of (ls0 := [some (aA 8 (some 0)), some (aA 1 (some 0)), none, none, none]) (by decide +kernel) (Nat.le_of_ble_eq_true rfl) rfl ?_
  intro G p e s m args below meth c C hr hlk hnm
  refine v_aload_n C (pc' := 1) dX9_read_0 rfl rfl rfl ?_
  obtain ⟨y1, hy1, E⟩ := bind_some E
  refine v_callV C (pc' := 4) (rest := []) (c_path_stay l h _ hy1) mv_X9_37 rfl rfl lv0_8 dX9_read_1 rfl rfl rfl ⟨Nat.le_of_ble_eq_true rfl, Nat.le_of_ble_eq_true rfl⟩ (Nat.le_of_ble_eq_true rfl) ⟨Nat.le_of_ble_eq_true rfl, Nat.le_of_ble_eq_true rfl⟩ ?_
  refine V.st (st' := []) rfl ?_
  refine v_aload_n C (pc' := 5) dX9_read_4 rfl rfl rfl ?_
  obtain ⟨y2, hy2, E⟩ := bind_some E
  refine v_callV C (pc' := 8) (rest := []) (c_line_argumentStart l y1 _ hy2) mv_X9_40 rfl rfl lv0_1 dX9_read_5 rfl rfl rfl ⟨Nat.le_of_ble_eq_true rfl, Nat.le_of_ble_eq_true rfl⟩ (Nat.le_of_ble_eq_true rfl) ⟨Nat.le_of_ble_eq_true rfl, Nat.le_of_ble_eq_true rfl⟩ ?_
  refine V.st (st' := [aI y2]) rfl ?_
  refine v_istore2 C (pc' := 9) dX9_read_8 (by decide) rfl rfl ?_
  refine v_aload_n C (pc' := 10) dX9_read_9 rfl rfl rfl ?_
  obtain ⟨y3, hy3, E⟩ := bind_some E
  refine v_callV C (pc' := 13) (rest := []) (c_line_length l y1 _ hy3) mv_X9_46 rfl rfl lv0_1 dX9_read_10 rfl rfl rfl ⟨Nat.le_of_ble_eq_true rfl, Nat.le_of_ble_eq_true rfl⟩ (Nat.le_of_ble_eq_true rfl) ⟨Nat.le_of_ble_eq_true rfl, Nat.le_of_ble_eq_true rfl⟩ ?_
  refine V.st (st' := [aI y3]) rfl ?_
  refine v_istore3 C (pc' := 14) dX9_read_13 (by decide) rfl rfl ?_
  refine v_aload_n C (pc' := 15) dX9_read_14 rfl rfl rfl ?_
  refine v_aload_n C (pc' := 16) dX9_read_15 rfl rfl rfl ?_
  refine v_iload_n C (pc' := 17) dX9_read_16 rfl rfl rfl ?_
  obtain ⟨y4, hy4, E⟩ := bind_some E
  refine v_callV C (pc' := 20) (rest := [aA 8 (some 0)]) (c_line_at l y2 y1 _ hy4) mv_X9_49 rfl rfl lv0_1 dX9_read_17 rfl rfl rfl ⟨Nat.le_of_ble_eq_true rfl, Nat.le_of_ble_eq_true rfl⟩ (Nat.le_of_ble_eq_true rfl) ⟨Nat.le_of_ble_eq_true rfl, Nat.le_of_ble_eq_true rfl⟩ ?_
  refine V.st (st' := [aI y4, aA 8 (some 0)]) rfl ?_
  refine v_bipush C (pc' := 22) dX9_read_20 (v := (47 : Int32)) (by decide) rfl ?_
  obtain ⟨t6, At6, E⟩ := bind_some E
  have Kt6 : V true G p l e { frames := 3, cells := 0, slots := 0, locals := 70 } s m args below meth c 5 (MQ below (QcA true G (some (aI r)) h') args s 0 0 (A_ G)) y1 0 0 30 [some (aA 8 (some 0)), some (aA 1 (some 0)), some (aI y2), some (aI y3), none] [aI t6, aA 8 (some 0)] := by
    obtain ⟨z7, E⟩ := guardZ_some E
    refine v_putZ C (pc' := 33) fp_X9_17 rfl rfl lv0_8 dX9_read_30 rfl z7 ?_
    refine v_aload_n C (pc' := 34) dX9_read_33 rfl rfl rfl ?_
    refine v_getI C (pc' := 37) fl_X9_17 rfl (Or.inr rfl) lv0_8 dX9_read_34 rfl ?_
    obtain ⟨t9, At9, E⟩ := bind_some E
    have Kt9 : V true G p l e { frames := 3, cells := 0, slots := 0, locals := 70 } s m args below meth c 5 (MQ below (QcA true G (some (aI r)) h') args s 0 0 (A_ G)) (sI y1 (8, 0) 2 t6) 0 0 43 [some (aA 8 (some 0)), some (aA 1 (some 0)), some (aI t9), some (aI y3), none] [] := by
      refine v_iload_n C (pc' := 44) dX9_read_43 rfl rfl rfl ?_
      refine v_istore4 C (pc' := 46) dX9_read_44 (by decide) rfl rfl ?_
      obtain ⟨t10, It10, E⟩ := bind_some E
      have Kt10 : ∀ ut10, t10 = .inr ut10 → V true G p l e { frames := 3, cells := 0, slots := 0, locals := 70 } s m args below meth c 5 (MQ below (QcA true G (some (aI r)) h') args s 0 0 (A_ G)) ut10.2.2 0 0 90 [some (aA 8 (some 0)), some (aA 1 (some 0)), some (aI ut10.1), some (aI y3), some (aI ut10.2.1)] [] := by
        intro ut10 hu
        rw [hu] at E
        simp only [Sum.elim_inr] at E
        refine v_aload_n C (pc' := 91) dX9_read_90 rfl rfl rfl ?_
        refine v_aload_n C (pc' := 92) dX9_read_91 rfl rfl rfl ?_
        refine v_getI C (pc' := 95) fl_X9_13 rfl (Or.inl rfl) lv0_8 dX9_read_92 rfl ?_
        obtain ⟨t12, At12, E⟩ := bind_some E
        have Kt12 : V true G p l e { frames := 3, cells := 0, slots := 0, locals := 70 } s m args below meth c 5 (MQ below (QcA true G (some (aI r)) h') args s 0 0 (A_ G)) ut10.2.2 0 0 108 [some (aA 8 (some 0)), some (aA 1 (some 0)), some (aI ut10.1), some (aI y3), some (aI ut10.2.1)] [aI t12, aA 8 (some 0)] := by
          obtain ⟨z14, E⟩ := guardZ_some E
          refine v_putZ C (pc' := 111) fp_X9_21 rfl rfl lv0_8 dX9_read_108 rfl z14 ?_
          refine v_iload_n C (pc' := 112) dX9_read_111 rfl rfl rfl ?_
          refine v_iload_n C (pc' := 113) dX9_read_112 rfl rfl rfl ?_
          obtain ⟨t16, At16, E⟩ := bind_some E
          have Kt16 : V true G p l e { frames := 3, cells := 0, slots := 0, locals := 70 } s m args below meth c 5 (MQ below (QcA true G (some (aI r)) h') args s 0 0 (A_ G)) t16.2 0 0 134 [some (aA 8 (some 0)), some (aA 1 (some 0)), some (aI ut10.1), some (aI y3), some (aI ut10.2.1)] [aI t16.1] := by
            obtain ⟨z20, E⟩ := guardZ_some E
            cases E
            exact v_retz C hr hlk z20 dX9_read_134
          refine v_icmp_eq C (tg := 129) (pc' := 116) dX9_read_113 (by decide) rfl (fun q15 => ?_) (fun q15 => ?_)
          · rw [if_pos q15] at At16
            refine v_iconst C (pc' := 130) dX9_read_129 (v := (1 : Int32)) (by decide) rfl ?_
            refine v_goto C (pc' := 134) dX9_read_130 (by decide) ?_
            cases At16
            exact Kt16
          · rw [if_neg q15] at At16
            refine v_aload_n C (pc' := 117) dX9_read_116 rfl rfl rfl ?_
            refine v_aload_n C (pc' := 118) dX9_read_117 rfl rfl rfl ?_
            refine v_iload_n C (pc' := 119) dX9_read_118 rfl rfl rfl ?_
            refine v_iload_n C (pc' := 120) dX9_read_119 rfl rfl rfl ?_
            obtain ⟨y17, hy17, At16⟩ := bind_some At16
            refine v_callS C (pc' := 123) (rest := [aA 8 (some 0)]) (c_name_partOfLine l ut10.1 y3 (sI ut10.2.2 (8, 0) 3 t12) _ hy17) ms_X9_53 dX9_read_120 rfl rfl rfl ⟨Nat.le_of_ble_eq_true rfl, Nat.le_of_ble_eq_true rfl⟩ (Nat.le_of_ble_eq_true rfl) ⟨Nat.le_of_ble_eq_true rfl, Nat.le_of_ble_eq_true rfl⟩ ?_
            refine V.st (st' := [aL y17, aA 8 (some 0)]) rfl ?_
            obtain ⟨y18, hy18, At16⟩ := bind_some At16
            refine v_callV C (pc' := 126) (rest := []) (c_path_addPart l y17 (sI ut10.2.2 (8, 0) 3 t12) _ _ hy18) mv_X9_57 rfl rfl lv0_8 dX9_read_123 rfl rfl rfl ⟨Nat.le_of_ble_eq_true rfl, Nat.le_of_ble_eq_true rfl⟩ (Nat.le_of_ble_eq_true rfl) ⟨Nat.le_of_ble_eq_true rfl, Nat.le_of_ble_eq_true rfl⟩ ?_
            refine V.st (st' := [aI y18.1]) rfl ?_
            refine v_if_eq C (tg := 133) (pc' := 129) dX9_read_126 (by decide) rfl (fun q19 => ?_) (fun q19 => ?_)
            · rw [if_pos q19] at At16
              refine v_iconst C (pc' := 134) dX9_read_133 (v := (0 : Int32)) (by decide) rfl ?_
              cases At16
              exact Kt16
            · rw [if_neg q19] at At16
              refine v_iconst C (pc' := 130) dX9_read_129 (v := (1 : Int32)) (by decide) rfl ?_
              refine v_goto C (pc' := 134) dX9_read_130 (by decide) ?_
              cases At16
              exact Kt16
        refine v_if_le C (tg := 107) (pc' := 98) dX9_read_95 (by decide) rfl (fun q11 => ?_) (fun q11 => ?_)
        · rw [if_pos q11] at At12
          refine v_iconst C (pc' := 108) dX9_read_107 (v := (0 : Int32)) (by decide) rfl ?_
          cases At12
          exact Kt12
        · rw [if_neg q11] at At12
          refine v_iload_n C (pc' := 99) dX9_read_98 rfl rfl rfl ?_
          refine v_iload_n C (pc' := 100) dX9_read_99 rfl rfl rfl ?_
          refine v_icmp_ne C (tg := 107) (pc' := 103) dX9_read_100 (by decide) rfl (fun q13 => ?_) (fun q13 => ?_)
          · rw [if_neg q13] at At12
            refine v_iconst C (pc' := 108) dX9_read_107 (v := (0 : Int32)) (by decide) rfl ?_
            cases At12
            exact Kt12
          · rw [if_pos q13] at At12
            refine v_iconst C (pc' := 104) dX9_read_103 (v := (1 : Int32)) (by decide) rfl ?_
            refine v_goto C (pc' := 108) dX9_read_104 (by decide) ?_
            cases At12
            exact Kt12
      refine iter_V (P := fun st10 : Int32 × Int32 × Hp => V true G p l e { frames := 3, cells := 0, slots := 0, locals := 70 } s m args below meth c 5 (MQ below (QcA true G (some (aI r)) h') args s 0 0 (A_ G)) st10.2.2 0 0 46 [some (aA 8 (some 0)), some (aA 1 (some 0)), some (aI st10.1), some (aI y3), some (aI st10.2.1)] []) ?_ _ _ It10
      rintro ⟨a2t10, a4t10, ht10⟩ ot10 Lt10 kxt10 kst10
      rw [path_read_l46] at Lt10
      show V true G p l e { frames := 3, cells := 0, slots := 0, locals := 70 } s m args below meth c 5 (MQ below (QcA true G (some (aI r)) h') args s 0 0 (A_ G)) ht10 0 0 46 [some (aA 8 (some 0)), some (aA 1 (some 0)), some (aI a2t10), some (aI y3), some (aI a4t10)] []
      refine v_iload C (pc' := 48) dX9_read_46 rfl rfl ?_
      refine v_iload_n C (pc' := 49) dX9_read_48 rfl rfl rfl ?_
      refine v_icmp_ge C (tg := 90) (pc' := 52) dX9_read_49 (by decide) rfl (fun q21 => ?_) (fun q21 => ?_)
      · rw [if_pos q21] at Lt10
        cases Lt10
        have z := kxt10 _ rfl
        exact Kt10 _ z.symm
      · rw [if_neg q21] at Lt10
        refine v_aload_n C (pc' := 53) dX9_read_52 rfl rfl rfl ?_
        refine v_iload C (pc' := 55) dX9_read_53 rfl rfl ?_
        obtain ⟨y22, hy22, Lt10⟩ := bind_some Lt10
        refine v_callV C (pc' := 58) (rest := []) (c_line_at l a4t10 ht10 _ hy22) mv_X9_49 rfl rfl lv0_1 dX9_read_55 rfl rfl rfl ⟨Nat.le_of_ble_eq_true rfl, Nat.le_of_ble_eq_true rfl⟩ (Nat.le_of_ble_eq_true rfl) ⟨Nat.le_of_ble_eq_true rfl, Nat.le_of_ble_eq_true rfl⟩ ?_
        refine V.st (st' := [aI y22]) rfl ?_
        refine v_bipush C (pc' := 60) dX9_read_58 (v := (47 : Int32)) (by decide) rfl ?_
        refine v_icmp_ne C (tg := 84) (pc' := 63) dX9_read_60 (by decide) rfl (fun q23 => ?_) (fun q23 => ?_)
        · rw [if_neg q23] at Lt10
          refine v_iinc4 C (pc' := 87) dX9_read_84 (v := (a4t10 + (1 : Int32))) (by rw [show Int32.ofInt 1 = (1 : Int32) by decide]) (by decide) rfl rfl ?_
          refine v_goto C (pc' := 46) dX9_read_87 (by decide) ?_
          cases Lt10
          exact kst10 _ rfl
        · rw [if_pos q23] at Lt10
          refine v_aload_n C (pc' := 64) dX9_read_63 rfl rfl rfl ?_
          refine v_aload_n C (pc' := 65) dX9_read_64 rfl rfl rfl ?_
          refine v_iload_n C (pc' := 66) dX9_read_65 rfl rfl rfl ?_
          refine v_iload C (pc' := 68) dX9_read_66 rfl rfl ?_
          obtain ⟨y24, hy24, Lt10⟩ := bind_some Lt10
          refine v_callS C (pc' := 71) (rest := [aA 8 (some 0)]) (c_name_partOfLine l a2t10 a4t10 ht10 _ hy24) ms_X9_53 dX9_read_68 rfl rfl rfl ⟨Nat.le_of_ble_eq_true rfl, Nat.le_of_ble_eq_true rfl⟩ (Nat.le_of_ble_eq_true rfl) ⟨Nat.le_of_ble_eq_true rfl, Nat.le_of_ble_eq_true rfl⟩ ?_
          refine V.st (st' := [aL y24, aA 8 (some 0)]) rfl ?_
          obtain ⟨y25, hy25, Lt10⟩ := bind_some Lt10
          refine v_callV C (pc' := 74) (rest := []) (c_path_addPart l y24 ht10 _ _ hy25) mv_X9_57 rfl rfl lv0_8 dX9_read_71 rfl rfl rfl ⟨Nat.le_of_ble_eq_true rfl, Nat.le_of_ble_eq_true rfl⟩ (Nat.le_of_ble_eq_true rfl) ⟨Nat.le_of_ble_eq_true rfl, Nat.le_of_ble_eq_true rfl⟩ ?_
          refine V.st (st' := [aI y25.1]) rfl ?_
          refine v_if_ne C (tg := 79) (pc' := 77) dX9_read_74 (by decide) rfl (fun q26 => ?_) (fun q26 => ?_)
          · rw [if_neg q26] at Lt10
            refine v_iload C (pc' := 81) dX9_read_79 rfl rfl ?_
            refine v_iconst C (pc' := 82) dX9_read_81 (v := (1 : Int32)) (by decide) rfl ?_
            refine v_iadd C (pc' := 83) dX9_read_82 rfl ?_
            refine v_istore2 C (pc' := 84) dX9_read_83 (by decide) rfl rfl ?_
            refine v_iinc4 C (pc' := 87) dX9_read_84 (v := (a4t10 + (1 : Int32))) (by rw [show Int32.ofInt 1 = (1 : Int32) by decide]) (by decide) rfl rfl ?_
            refine v_goto C (pc' := 46) dX9_read_87 (by decide) ?_
            cases Lt10
            exact kst10 _ rfl
          · rw [if_pos q26] at Lt10
            refine v_iconst C (pc' := 78) dX9_read_77 (v := (0 : Int32)) (by decide) rfl ?_
            cases Lt10
            have z := kxt10 _ rfl
            rw [← z] at E
            simp only [Sum.elim_inl] at E
            cases E
            exact v_retz C hr hlk (Or.inl rfl) dX9_read_78
    refine v_if_eq C (tg := 43) (pc' := 40) dX9_read_37 (by decide) rfl (fun q8 => ?_) (fun q8 => ?_)
    · rw [if_pos q8] at At9
      cases At9
      exact Kt9
    · rw [if_neg q8] at At9
      refine v_iinc2 C (pc' := 43) dX9_read_40 (v := (y2 + (1 : Int32))) (by rw [show Int32.ofInt 1 = (1 : Int32) by decide]) (by decide) rfl rfl ?_
      cases At9
      exact Kt9
  refine v_icmp_ne C (tg := 29) (pc' := 25) dX9_read_22 (by decide) rfl (fun q5 => ?_) (fun q5 => ?_)
  · rw [if_neg q5] at At6
    refine v_iconst C (pc' := 30) dX9_read_29 (v := (0 : Int32)) (by decide) rfl ?_
    cases At6
    exact Kt6
  · rw [if_pos q5] at At6
    refine v_iconst C (pc' := 26) dX9_read_25 (v := (1 : Int32)) (by decide) rfl ?_
    refine v_goto C (pc' := 30) dX9_read_26 (by decide) ?_
    cases At6
    exact Kt6

def line_number_l19 (v2 : Int32) (h : Hp) : Int32 × Int32 → Option ((Int32 ⊕ (Int32 × Int32)) ⊕ (Int32 × Int32))
  | (a3, a4) =>
    if v2 ≤ a4 then
      some (.inl (.inr (a3, a4)))
    else
      (line_at a4 h).bind fun y4 =>
      if y4 < (48 : Int32) then
        some (.inl (.inl (-1 : Int32)))
      else
        if y4 ≤ (57 : Int32) then
          some (.inr ((((a3 * (10 : Int32)) + y4) - (48 : Int32)), (a4 + (1 : Int32))))
        else
          some (.inl (.inl (-1 : Int32)))
def line_number (p1 : Int32) (p2 : Int32) (h : Hp) : Option Int32 :=
  if p2 ≤ p1 then
    some (-1 : Int32)
  else
    if (p2 - p1) ≤ (3 : Int32) then
      (iter (line_number_l19 p2 h) FU ((0 : Int32), p1)).bind fun t7 =>
      t7.elim (fun r => some r) fun ut7 =>
      some ut7.1
    else
      some (-1 : Int32)
set_option maxHeartbeats 2000000 in
set_option maxRecDepth 20000 in
theorem c_line_number (l : Launch) (p1 : Int32) (p2 : Int32) (h : Hp) (r : Int32)  (E : line_number p1 p2 h = some r) : Ctr l yX4_number cX4_number 6 (some .int) 1 21 0 0 true [aA 1 (some 0), aI p1, aI p2] h (some (aI r)) h := by
  rw [line_number] at E
  refine Ctr.of (ls0 := [some (aA 1 (some 0)), some (aI p1), some (aI p2), none, none, none]) (by decide +kernel) (Nat.le_of_ble_eq_true rfl) rfl ?_
  intro G p e s m args below meth c C hr hlk hnm
  refine v_iload_n C (pc' := 1) dX4_number_0 rfl rfl rfl ?_
  refine v_iload_n C (pc' := 2) dX4_number_1 rfl rfl rfl ?_
  refine v_icmp_ge C (tg := 12) (pc' := 5) dX4_number_2 (by decide) rfl (fun q1 => ?_) (fun q1 => ?_)
  · rw [if_pos q1] at E
    refine v_iconst C (pc' := 13) dX4_number_12 (v := (-1 : Int32)) (by decide) rfl ?_
    cases E
    exact v_reti C hr hlk dX4_number_13
  · rw [if_neg q1] at E
    refine v_iload_n C (pc' := 6) dX4_number_5 rfl rfl rfl ?_
    refine v_iload_n C (pc' := 7) dX4_number_6 rfl rfl rfl ?_
    refine v_isub C (pc' := 8) dX4_number_7 rfl ?_
    refine v_iconst C (pc' := 9) dX4_number_8 (v := (3 : Int32)) (by decide) rfl ?_
    refine v_icmp_le C (tg := 14) (pc' := 12) dX4_number_9 (by decide) rfl (fun q2 => ?_) (fun q2 => ?_)
    · rw [if_pos q2] at E
      refine v_iconst C (pc' := 15) dX4_number_14 (v := (0 : Int32)) (by decide) rfl ?_
      refine v_istore3 C (pc' := 16) dX4_number_15 (by decide) rfl rfl ?_
      refine v_iload_n C (pc' := 17) dX4_number_16 rfl rfl rfl ?_
      refine v_istore4 C (pc' := 19) dX4_number_17 (by decide) rfl rfl ?_
      obtain ⟨t3, It3, E⟩ := bind_some E
      have Kt3 : ∀ ut3, t3 = .inr ut3 → V true G p l e { frames := 1, cells := 0, slots := 0, locals := 21 } s m args below meth c 6 (MQ below (QcA true G (some (aI r)) h) args s 0 0 (A_ G)) h 0 0 66 [some (aA 1 (some 0)), some (aI p1), some (aI p2), some (aI ut3.1), some (aI ut3.2), none] [] := by
        intro ut3 hu
        rw [hu] at E
        simp only [Sum.elim_inr] at E
        refine v_iload_n C (pc' := 67) dX4_number_66 rfl rfl rfl ?_
        cases E
        exact v_reti C hr hlk dX4_number_67
      refine iter_V (P := fun st3 : Int32 × Int32 => V true G p l e { frames := 1, cells := 0, slots := 0, locals := 21 } s m args below meth c 6 (MQ below (QcA true G (some (aI r)) h) args s 0 0 (A_ G)) h 0 0 19 [some (aA 1 (some 0)), some (aI p1), some (aI p2), some (aI st3.1), some (aI st3.2), none] []) ?_ _ _ It3
      rintro ⟨a3t3, a4t3⟩ ot3 Lt3 kxt3 kst3
      rw [line_number_l19] at Lt3
      show V true G p l e { frames := 1, cells := 0, slots := 0, locals := 21 } s m args below meth c 6 (MQ below (QcA true G (some (aI r)) h) args s 0 0 (A_ G)) h 0 0 19 [some (aA 1 (some 0)), some (aI p1), some (aI p2), some (aI a3t3), some (aI a4t3), none] []
      refine v_iload C (pc' := 21) dX4_number_19 rfl rfl ?_
      refine v_iload_n C (pc' := 22) dX4_number_21 rfl rfl rfl ?_
      refine v_icmp_ge C (tg := 66) (pc' := 25) dX4_number_22 (by decide) rfl (fun q4 => ?_) (fun q4 => ?_)
      · rw [if_pos q4] at Lt3
        cases Lt3
        have z := kxt3 _ rfl
        exact Kt3 _ z.symm
      · rw [if_neg q4] at Lt3
        refine v_aload_n C (pc' := 26) dX4_number_25 rfl rfl rfl ?_
        refine v_iload C (pc' := 28) dX4_number_26 rfl rfl ?_
        obtain ⟨y5, hy5, Lt3⟩ := bind_some Lt3
        refine v_callV C (pc' := 31) (rest := []) (c_line_at l a4t3 h _ hy5) mv_X4_27 rfl rfl lv0_1 dX4_number_28 rfl rfl rfl ⟨Nat.le_of_ble_eq_true rfl, Nat.le_of_ble_eq_true rfl⟩ (Nat.le_of_ble_eq_true rfl) ⟨Nat.le_of_ble_eq_true rfl, Nat.le_of_ble_eq_true rfl⟩ ?_
        refine V.st (st' := [aI y5]) rfl ?_
        refine v_istore5 C (pc' := 33) dX4_number_31 (by decide) rfl rfl ?_
        refine v_iload C (pc' := 35) dX4_number_33 rfl rfl ?_
        refine v_bipush C (pc' := 37) dX4_number_35 (v := (48 : Int32)) (by decide) rfl ?_
        refine v_icmp_lt C (tg := 47) (pc' := 40) dX4_number_37 (by decide) rfl (fun q6 => ?_) (fun q6 => ?_)
        · rw [if_pos q6] at Lt3
          refine v_iconst C (pc' := 48) dX4_number_47 (v := (-1 : Int32)) (by decide) rfl ?_
          cases Lt3
          have z := kxt3 _ rfl
          rw [← z] at E
          simp only [Sum.elim_inl] at E
          cases E
          exact v_reti C hr hlk dX4_number_48
        · rw [if_neg q6] at Lt3
          refine v_iload C (pc' := 42) dX4_number_40 rfl rfl ?_
          refine v_bipush C (pc' := 44) dX4_number_42 (v := (57 : Int32)) (by decide) rfl ?_
          refine v_icmp_le C (tg := 49) (pc' := 47) dX4_number_44 (by decide) rfl (fun q7 => ?_) (fun q7 => ?_)
          · rw [if_pos q7] at Lt3
            refine v_iload_n C (pc' := 50) dX4_number_49 rfl rfl rfl ?_
            refine v_bipush C (pc' := 52) dX4_number_50 (v := (10 : Int32)) (by decide) rfl ?_
            refine v_imul C (pc' := 53) dX4_number_52 rfl ?_
            refine v_iload C (pc' := 55) dX4_number_53 rfl rfl ?_
            refine v_iadd C (pc' := 56) dX4_number_55 rfl ?_
            refine v_bipush C (pc' := 58) dX4_number_56 (v := (48 : Int32)) (by decide) rfl ?_
            refine v_isub C (pc' := 59) dX4_number_58 rfl ?_
            refine v_istore3 C (pc' := 60) dX4_number_59 (by decide) rfl rfl ?_
            refine v_iinc4 C (pc' := 63) dX4_number_60 (v := (a4t3 + (1 : Int32))) (by rw [show Int32.ofInt 1 = (1 : Int32) by decide]) (by decide) rfl rfl ?_
            refine v_goto C (pc' := 19) dX4_number_63 (by decide) ?_
            cases Lt3
            exact V.ls (ms := [true, true, true, true, true, false]) rfl (kst3 _ rfl)
          · rw [if_neg q7] at Lt3
            refine v_iconst C (pc' := 48) dX4_number_47 (v := (-1 : Int32)) (by decide) rfl ?_
            cases Lt3
            have z := kxt3 _ rfl
            rw [← z] at E
            simp only [Sum.elim_inl] at E
            cases E
            exact v_reti C hr hlk dX4_number_48
    · rw [if_neg q2] at E
      refine v_iconst C (pc' := 13) dX4_number_12 (v := (-1 : Int32)) (by decide) rfl ?_
      cases E
      exact v_reti C hr hlk dX4_number_13

def line_argumentNumber  (h : Hp) : Option Int32 :=
  (line_argumentStart h).bind fun y1 =>
  (line_number y1 (gI h (1, 0) 1) h).bind fun y2 =>
  some y2
set_option maxHeartbeats 2000000 in
set_option maxRecDepth 20000 in
theorem c_line_argumentNumber (l : Launch)  (h : Hp) (r : Int32)  (E : line_argumentNumber  h = some r) : Ctr l yX4_argumentNumber cX4_argumentNumber 1 (some .int) 2 46 0 0 true [aA 1 (some 0)] h (some (aI r)) h := by
  rw [line_argumentNumber] at E
  refine Ctr.of (ls0 := [some (aA 1 (some 0))]) (by decide +kernel) (Nat.le_of_ble_eq_true rfl) rfl ?_
  intro G p e s m args below meth c C hr hlk hnm
  refine v_aload_n C (pc' := 1) dX4_argumentNumber_0 rfl rfl rfl ?_
  refine v_aload_n C (pc' := 2) dX4_argumentNumber_1 rfl rfl rfl ?_
  obtain ⟨y1, hy1, E⟩ := bind_some E
  refine v_callV C (pc' := 5) (rest := [aA 1 (some 0)]) (c_line_argumentStart l h _ hy1) mv_X4_41 rfl rfl lv0_1 dX4_argumentNumber_2 rfl rfl rfl ⟨Nat.le_of_ble_eq_true rfl, Nat.le_of_ble_eq_true rfl⟩ (Nat.le_of_ble_eq_true rfl) ⟨Nat.le_of_ble_eq_true rfl, Nat.le_of_ble_eq_true rfl⟩ ?_
  refine V.st (st' := [aI y1, aA 1 (some 0)]) rfl ?_
  refine v_aload_n C (pc' := 6) dX4_argumentNumber_5 rfl rfl rfl ?_
  refine v_getI C (pc' := 9) fl_X4_15 rfl (Or.inl rfl) lv0_1 dX4_argumentNumber_6 rfl ?_
  obtain ⟨y2, hy2, E⟩ := bind_some E
  refine v_callV C (pc' := 12) (rest := []) (c_line_number l y1 (gI h (1, 0) 1) h _ hy2) mv_X4_54 rfl rfl lv0_1 dX4_argumentNumber_9 rfl rfl rfl ⟨Nat.le_of_ble_eq_true rfl, Nat.le_of_ble_eq_true rfl⟩ (Nat.le_of_ble_eq_true rfl) ⟨Nat.le_of_ble_eq_true rfl, Nat.le_of_ble_eq_true rfl⟩ ?_
  refine V.st (st' := [aI y2]) rfl ?_
  cases E
  exact v_reti C hr hlk dX4_argumentNumber_12

def line_argumentPort_j41 (v1 : Int32) (v2 : Int32) (v3 : Int32) (v4 : Int32) (h : Hp) : Option ((Int32 ⊕ (Int32 × Int32 × Int32 × Int32)) ⊕ (Int32 × Int32 × Int32 × Int32)) :=
  (line_number v3 v4 h).bind fun y6 =>
  if y6 = (-1 : Int32) then
    some (.inl (.inl (-1 : Int32)))
  else
    if y6 ≤ (255 : Int32) then
      some (.inr ((((v1 <<< ((8 : Int32) &&& 31)) ||| y6) &&& (65535 : Int32)), (v2 + (1 : Int32)), (v4 + (1 : Int32)), (v4 + (1 : Int32))))
    else
      some (.inl (.inl (-1 : Int32)))
def line_argumentPort_l12  (h : Hp) : Int32 × Int32 × Int32 × Int32 → Option ((Int32 ⊕ (Int32 × Int32 × Int32 × Int32)) ⊕ (Int32 × Int32 × Int32 × Int32))
  | (a1, a2, a3, a4) =>
    if (gI h (1, 0) 1) < a4 then
      some (.inl (.inr (a1, a2, a3, a4)))
    else
      if a4 = (gI h (1, 0) 1) then
        line_argumentPort_j41 a1 a2 a3 a4 h
      else
        (line_at a4 h).bind fun y4 =>
        if y4 = (44 : Int32) then
          line_argumentPort_j41 a1 a2 a3 a4 h
        else
          some (.inr (a1, a2, a3, (a4 + (1 : Int32))))
def line_argumentPort  (h : Hp) : Option Int32 :=
  (line_argumentStart h).bind fun y1 =>
  (iter (line_argumentPort_l12 h) FU ((0 : Int32), (0 : Int32), y1, y1)).bind fun t9 =>
  t9.elim (fun r => some r) fun ut9 =>
  (if ut9.2.1 = (6 : Int32) then
    some ut9.1
  else
    some (-1 : Int32)).bind fun t11 =>
  some t11
set_option maxHeartbeats 2000000 in
set_option maxRecDepth 20000 in
theorem c_line_argumentPort (l : Launch)  (h : Hp) (r : Int32)  (E : line_argumentPort  h = some r) : Ctr l yX4_argumentPort cX4_argumentPort 6 (some .int) 2 46 0 0 true [aA 1 (some 0)] h (some (aI r)) h := by
  rw [line_argumentPort] at E
  refine Ctr.of (ls0 := [some (aA 1 (some 0)), none, none, none, none, none]) (by decide +kernel) (Nat.le_of_ble_eq_true rfl) rfl ?_
  intro G p e s m args below meth c C hr hlk hnm
  refine v_iconst C (pc' := 1) dX4_argumentPort_0 (v := (0 : Int32)) (by decide) rfl ?_
  refine v_istore1 C (pc' := 2) dX4_argumentPort_1 (by decide) rfl rfl ?_
  refine v_iconst C (pc' := 3) dX4_argumentPort_2 (v := (0 : Int32)) (by decide) rfl ?_
  refine v_istore2 C (pc' := 4) dX4_argumentPort_3 (by decide) rfl rfl ?_
  refine v_aload_n C (pc' := 5) dX4_argumentPort_4 rfl rfl rfl ?_
  obtain ⟨y1, hy1, E⟩ := bind_some E
  refine v_callV C (pc' := 8) (rest := []) (c_line_argumentStart l h _ hy1) mv_X4_41 rfl rfl lv0_1 dX4_argumentPort_5 rfl rfl rfl ⟨Nat.le_of_ble_eq_true rfl, Nat.le_of_ble_eq_true rfl⟩ (Nat.le_of_ble_eq_true rfl) ⟨Nat.le_of_ble_eq_true rfl, Nat.le_of_ble_eq_true rfl⟩ ?_
  refine V.st (st' := [aI y1]) rfl ?_
  refine v_istore3 C (pc' := 9) dX4_argumentPort_8 (by decide) rfl rfl ?_
  refine v_iload_n C (pc' := 10) dX4_argumentPort_9 rfl rfl rfl ?_
  refine v_istore4 C (pc' := 12) dX4_argumentPort_10 (by decide) rfl rfl ?_
  obtain ⟨t2, It2, E⟩ := bind_some E
  have Kt2 : ∀ ut2, t2 = .inr ut2 → V true G p l e { frames := 2, cells := 0, slots := 0, locals := 46 } s m args below meth c 6 (MQ below (QcA true G (some (aI r)) h) args s 0 0 (A_ G)) h 0 0 91 [some (aA 1 (some 0)), some (aI ut2.1), some (aI ut2.2.1), some (aI ut2.2.2.1), some (aI ut2.2.2.2), none] [] := by
    intro ut2 hu
    rw [hu] at E
    simp only [Sum.elim_inr] at E
    refine v_iload_n C (pc' := 92) dX4_argumentPort_91 rfl rfl rfl ?_
    refine v_bipush C (pc' := 94) dX4_argumentPort_92 (v := (6 : Int32)) (by decide) rfl ?_
    obtain ⟨t4, At4, E⟩ := bind_some E
    have Kt4 : V true G p l e { frames := 2, cells := 0, slots := 0, locals := 46 } s m args below meth c 6 (MQ below (QcA true G (some (aI r)) h) args s 0 0 (A_ G)) h 0 0 102 [some (aA 1 (some 0)), some (aI ut2.1), some (aI ut2.2.1), some (aI ut2.2.2.1), some (aI ut2.2.2.2), none] [aI t4] := by
      cases E
      exact v_reti C hr hlk dX4_argumentPort_102
    refine v_icmp_ne C (tg := 101) (pc' := 97) dX4_argumentPort_94 (by decide) rfl (fun q3 => ?_) (fun q3 => ?_)
    · rw [if_neg q3] at At4
      refine v_iconst C (pc' := 102) dX4_argumentPort_101 (v := (-1 : Int32)) (by decide) rfl ?_
      cases At4
      exact Kt4
    · rw [if_pos q3] at At4
      refine v_iload_n C (pc' := 98) dX4_argumentPort_97 rfl rfl rfl ?_
      refine v_goto C (pc' := 102) dX4_argumentPort_98 (by decide) ?_
      cases At4
      exact Kt4
  refine iter_V (P := fun st2 : Int32 × Int32 × Int32 × Int32 => V true G p l e { frames := 2, cells := 0, slots := 0, locals := 46 } s m args below meth c 6 (MQ below (QcA true G (some (aI r)) h) args s 0 0 (A_ G)) h 0 0 12 [some (aA 1 (some 0)), some (aI st2.1), some (aI st2.2.1), some (aI st2.2.2.1), some (aI st2.2.2.2), none] []) ?_ _ _ It2
  rintro ⟨a1t2, a2t2, a3t2, a4t2⟩ ot2 Lt2 kxt2 kst2
  rw [line_argumentPort_l12] at Lt2
  show V true G p l e { frames := 2, cells := 0, slots := 0, locals := 46 } s m args below meth c 6 (MQ below (QcA true G (some (aI r)) h) args s 0 0 (A_ G)) h 0 0 12 [some (aA 1 (some 0)), some (aI a1t2), some (aI a2t2), some (aI a3t2), some (aI a4t2), none] []
  refine v_iload C (pc' := 14) dX4_argumentPort_12 rfl rfl ?_
  refine v_aload_n C (pc' := 15) dX4_argumentPort_14 rfl rfl rfl ?_
  refine v_getI C (pc' := 18) fl_X4_15 rfl (Or.inl rfl) lv0_1 dX4_argumentPort_15 rfl ?_
  refine v_icmp_gt C (tg := 91) (pc' := 21) dX4_argumentPort_18 (by decide) rfl (fun q5 => ?_) (fun q5 => ?_)
  · rw [if_pos q5] at Lt2
    cases Lt2
    have z := kxt2 _ rfl
    exact Kt2 _ z.symm
  · rw [if_neg q5] at Lt2
    refine v_iload C (pc' := 23) dX4_argumentPort_21 rfl rfl ?_
    refine v_aload_n C (pc' := 24) dX4_argumentPort_23 rfl rfl rfl ?_
    refine v_getI C (pc' := 27) fl_X4_15 rfl (Or.inl rfl) lv0_1 dX4_argumentPort_24 rfl ?_
    have J41 : ∀ (v4j41 : Int32), line_argumentPort_j41 a1t2 a2t2 a3t2 v4j41 h = some ot2 → V true G p l e { frames := 2, cells := 0, slots := 0, locals := 46 } s m args below meth c 6 (MQ below (QcA true G (some (aI r)) h) args s 0 0 (A_ G)) h 0 0 41 [some (aA 1 (some 0)), some (aI a1t2), some (aI a2t2), some (aI a3t2), some (aI v4j41), none] [] := by
      intro v4j41 Ej41
      rw [line_argumentPort_j41] at Ej41
      refine v_aload_n C (pc' := 42) dX4_argumentPort_41 rfl rfl rfl ?_
      refine v_iload_n C (pc' := 43) dX4_argumentPort_42 rfl rfl rfl ?_
      refine v_iload C (pc' := 45) dX4_argumentPort_43 rfl rfl ?_
      obtain ⟨y9, hy9, Ej41⟩ := bind_some Ej41
      refine v_callV C (pc' := 48) (rest := []) (c_line_number l a3t2 v4j41 h _ hy9) mv_X4_54 rfl rfl lv0_1 dX4_argumentPort_45 rfl rfl rfl ⟨Nat.le_of_ble_eq_true rfl, Nat.le_of_ble_eq_true rfl⟩ (Nat.le_of_ble_eq_true rfl) ⟨Nat.le_of_ble_eq_true rfl, Nat.le_of_ble_eq_true rfl⟩ ?_
      refine V.st (st' := [aI y9]) rfl ?_
      refine v_istore5 C (pc' := 50) dX4_argumentPort_48 (by decide) rfl rfl ?_
      refine v_iload C (pc' := 52) dX4_argumentPort_50 rfl rfl ?_
      refine v_iconst C (pc' := 53) dX4_argumentPort_52 (v := (-1 : Int32)) (by decide) rfl ?_
      refine v_icmp_eq C (tg := 64) (pc' := 56) dX4_argumentPort_53 (by decide) rfl (fun q10 => ?_) (fun q10 => ?_)
      · rw [if_pos q10] at Ej41
        refine v_iconst C (pc' := 65) dX4_argumentPort_64 (v := (-1 : Int32)) (by decide) rfl ?_
        cases Ej41
        have z := kxt2 _ rfl
        rw [← z] at E
        simp only [Sum.elim_inl] at E
        cases E
        exact v_reti C hr hlk dX4_argumentPort_65
      · rw [if_neg q10] at Ej41
        refine v_iload C (pc' := 58) dX4_argumentPort_56 rfl rfl ?_
        refine v_sipush C (pc' := 61) dX4_argumentPort_58 (v := (255 : Int32)) (by decide) rfl ?_
        refine v_icmp_le C (tg := 66) (pc' := 64) dX4_argumentPort_61 (by decide) rfl (fun q11 => ?_) (fun q11 => ?_)
        · rw [if_pos q11] at Ej41
          refine v_iload_n C (pc' := 67) dX4_argumentPort_66 rfl rfl rfl ?_
          refine v_bipush C (pc' := 69) dX4_argumentPort_67 (v := (8 : Int32)) (by decide) rfl ?_
          refine v_ishl C (pc' := 70) dX4_argumentPort_69 rfl ?_
          refine v_iload C (pc' := 72) dX4_argumentPort_70 rfl rfl ?_
          refine v_ior C (pc' := 73) dX4_argumentPort_72 rfl ?_
          refine v_ldc C (pc' := 75) dX4_argumentPort_73 (v := (65535 : Int32)) (TT_of (i := 641) (by decide +kernel) (by decide +kernel)) rfl ?_
          refine v_iand C (pc' := 76) dX4_argumentPort_75 rfl ?_
          refine v_istore1 C (pc' := 77) dX4_argumentPort_76 (by decide) rfl rfl ?_
          refine v_iinc2 C (pc' := 80) dX4_argumentPort_77 (v := (a2t2 + (1 : Int32))) (by rw [show Int32.ofInt 1 = (1 : Int32) by decide]) (by decide) rfl rfl ?_
          refine v_iload C (pc' := 82) dX4_argumentPort_80 rfl rfl ?_
          refine v_iconst C (pc' := 83) dX4_argumentPort_82 (v := (1 : Int32)) (by decide) rfl ?_
          refine v_iadd C (pc' := 84) dX4_argumentPort_83 rfl ?_
          refine v_istore3 C (pc' := 85) dX4_argumentPort_84 (by decide) rfl rfl ?_
          refine v_iinc4 C (pc' := 88) dX4_argumentPort_85 (v := (v4j41 + (1 : Int32))) (by rw [show Int32.ofInt 1 = (1 : Int32) by decide]) (by decide) rfl rfl ?_
          refine v_goto C (pc' := 12) dX4_argumentPort_88 (by decide) ?_
          cases Ej41
          exact V.ls (ms := [true, true, true, true, true, false]) rfl (kst2 _ rfl)
        · rw [if_neg q11] at Ej41
          refine v_iconst C (pc' := 65) dX4_argumentPort_64 (v := (-1 : Int32)) (by decide) rfl ?_
          cases Ej41
          have z := kxt2 _ rfl
          rw [← z] at E
          simp only [Sum.elim_inl] at E
          cases E
          exact v_reti C hr hlk dX4_argumentPort_65
    refine v_icmp_eq C (tg := 41) (pc' := 30) dX4_argumentPort_27 (by decide) rfl (fun q6 => ?_) (fun q6 => ?_)
    · rw [if_pos q6] at Lt2
      exact J41 _ Lt2
    · rw [if_neg q6] at Lt2
      refine v_aload_n C (pc' := 31) dX4_argumentPort_30 rfl rfl rfl ?_
      refine v_iload C (pc' := 33) dX4_argumentPort_31 rfl rfl ?_
      obtain ⟨y7, hy7, Lt2⟩ := bind_some Lt2
      refine v_callV C (pc' := 36) (rest := []) (c_line_at l a4t2 h _ hy7) mv_X4_27 rfl rfl lv0_1 dX4_argumentPort_33 rfl rfl rfl ⟨Nat.le_of_ble_eq_true rfl, Nat.le_of_ble_eq_true rfl⟩ (Nat.le_of_ble_eq_true rfl) ⟨Nat.le_of_ble_eq_true rfl, Nat.le_of_ble_eq_true rfl⟩ ?_
      refine V.st (st' := [aI y7]) rfl ?_
      refine v_bipush C (pc' := 38) dX4_argumentPort_36 (v := (44 : Int32)) (by decide) rfl ?_
      refine v_icmp_ne C (tg := 85) (pc' := 41) dX4_argumentPort_38 (by decide) rfl (fun q8 => ?_) (fun q8 => ?_)
      · rw [if_neg q8] at Lt2
        refine v_iinc4 C (pc' := 88) dX4_argumentPort_85 (v := (a4t2 + (1 : Int32))) (by rw [show Int32.ofInt 1 = (1 : Int32) by decide]) (by decide) rfl rfl ?_
        refine v_goto C (pc' := 12) dX4_argumentPort_88 (by decide) ?_
        cases Lt2
        exact kst2 _ rfl
      · rw [if_pos q8] at Lt2
        exact J41 _ Lt2

def r_argumentFits (p1 : Option Nat) (h : Hp) : Option (Int32 × Hp) :=
  (line_hasArgument h).bind fun y1 =>
  if y1 = 0 then
    (path_stay h).bind fun y26 =>
    (nd 22 p1).bind fun x27 =>
    (if (cArg.getD x27 0) = 0 then
      some (1 : Int32)
    else
      if (cArg.getD x27 0) = (3 : Int32) then
        some (1 : Int32)
      else
        some (0 : Int32)).bind fun t29 =>
    guardZ t29 <|
    some (t29, y26)
  else
    (nd 22 p1).bind fun x3 =>
    if (cArg.getD x3 0) = (1 : Int32) then
      (line_argumentName h).bind fun y5 =>
      (if y5 = (0 : Int64) then
        some (0 : Int32)
      else
        some (1 : Int32)).bind fun t7 =>
      guardZ t7 <|
      some (t7, h)
    else
    if (cArg.getD x3 0) = (2 : Int32) then
      (path_read h).bind fun y10 =>
      guardZ y10.1 <|
      some (y10.1, y10.2)
    else
    if (cArg.getD x3 0) = (3 : Int32) then
      (path_read h).bind fun y13 =>
      guardZ y13.1 <|
      some (y13.1, y13.2)
    else
    if (cArg.getD x3 0) = (4 : Int32) then
      (line_argumentNumber h).bind fun y16 =>
      (if y16 = (-1 : Int32) then
        some (0 : Int32)
      else
        some (1 : Int32)).bind fun t18 =>
      guardZ t18 <|
      some (t18, h)
    else
    if (cArg.getD x3 0) = (5 : Int32) then
      (line_argumentPort h).bind fun y21 =>
      (if y21 = (-1 : Int32) then
        some (0 : Int32)
      else
        some (1 : Int32)).bind fun t23 =>
      guardZ t23 <|
      some (t23, h)
    else
    if (cArg.getD x3 0) = (6 : Int32) then
      some ((1 : Int32), h)
    else
    some ((0 : Int32), h)
set_option maxHeartbeats 2000000 in
set_option maxRecDepth 20000 in
theorem c_r_argumentFits (l : Launch) (p1 : Option Nat) (h : Hp) (r : Int32) (h' : Hp)  (E : r_argumentFits p1 h = some (r, h')) : Ctr l yX12_argumentFits cX12_argumentFits 2 (some .boolean) 4 94 0 0 true [aA 0 (some 0), aA 100 p1] h (some (aI r)) h' := by
  rw [r_argumentFits] at E
  refine Ctr.of (ls0 := [some (aA 0 (some 0)), some (aA 100 p1)]) (by decide +kernel) (Nat.le_of_ble_eq_true rfl) rfl ?_
  intro G p e s m args below meth c C hr hlk hnm
  refine v_aload_n C (pc' := 1) dX12_argumentFits_0 rfl rfl rfl ?_
  refine v_getF C (pc' := 4) rfl fl_X12_10 rfl rfl (t2 := 1) rfl (j := 0) rfl u0_0 dX12_argumentFits_1 rfl ?_
  obtain ⟨y1, hy1, E⟩ := bind_some E
  refine v_callV C (pc' := 7) (rest := []) (c_line_hasArgument l h _ hy1) mv_X12_230 rfl rfl lv0_1 dX12_argumentFits_4 rfl rfl rfl ⟨Nat.le_of_ble_eq_true rfl, Nat.le_of_ble_eq_true rfl⟩ (Nat.le_of_ble_eq_true rfl) ⟨Nat.le_of_ble_eq_true rfl, Nat.le_of_ble_eq_true rfl⟩ ?_
  refine V.st (st' := [aI y1]) rfl ?_
  refine v_if_ne C (tg := 38) (pc' := 10) dX12_argumentFits_7 (by decide) rfl (fun q2 => ?_) (fun q2 => ?_)
  · rw [if_neg q2] at E
    refine v_aload_n C (pc' := 39) dX12_argumentFits_38 rfl rfl rfl ?_
    obtain ⟨x3, hx3, E⟩ := bind_some E
    obtain ⟨hx3, bx3⟩ := nd_some hx3
    refine V.st (st' := [aA 100 (some x3)]) (by rw [hx3]) ?_
    refine v_kArg C (pc' := 42) bx3 (TT_of (i := 1254) (by decide +kernel) (by decide +kernel)) dX12_argumentFits_39 rfl ?_
    by_cases q4 : (cArg.getD x3 0) = (1 : Int32)
    · rw [if_pos q4] at E
      refine v_tabIn C (pc' := 80) dX12_argumentFits_42 (by rw [q4]; decide) (by rw [q4]; decide) (off := 38) (by rw [q4]; decide) (by decide) ?_
      refine v_aload_n C (pc' := 81) dX12_argumentFits_80 rfl rfl rfl ?_
      refine v_getF C (pc' := 84) rfl fl_X12_10 rfl rfl (t2 := 1) rfl (j := 0) rfl u0_0 dX12_argumentFits_81 rfl ?_
      obtain ⟨y5, hy5, E⟩ := bind_some E
      refine v_callV C (pc' := 87) (rest := []) (c_line_argumentName l h _ hy5) mv_X12_236 rfl rfl lv0_1 dX12_argumentFits_84 rfl rfl rfl ⟨Nat.le_of_ble_eq_true rfl, Nat.le_of_ble_eq_true rfl⟩ (Nat.le_of_ble_eq_true rfl) ⟨Nat.le_of_ble_eq_true rfl, Nat.le_of_ble_eq_true rfl⟩ ?_
      refine V.st (st' := [aL y5]) rfl ?_
      refine v_lconst C (pc' := 88) dX12_argumentFits_87 (v := (0 : Int64)) (by decide) rfl ?_
      refine v_lcmp C (pc' := 89) dX12_argumentFits_88 rfl ?_
      obtain ⟨t7, At7, E⟩ := bind_some E
      have Kt7 : V true G p l e { frames := 4, cells := 0, slots := 0, locals := 94 } s m args below meth c 2 (MQ below (QcA true G (some (aI r)) h') args s 0 0 (A_ G)) h 0 0 97 [some (aA 0 (some 0)), some (aA 100 p1)] [aI t7] := by
        obtain ⟨z8, E⟩ := guardZ_some E
        cases E
        exact v_retz C hr hlk z8 dX12_argumentFits_97
      refine v_if_eq C (tg := 96) (pc' := 92) dX12_argumentFits_89 (by decide) rfl (fun q6 => ?_) (fun q6 => ?_)
      · rw [lgc_eq] at q6
        rw [if_pos q6] at At7
        refine v_iconst C (pc' := 97) dX12_argumentFits_96 (v := (0 : Int32)) (by decide) rfl ?_
        cases At7
        exact Kt7
      · rw [lgc_eq] at q6
        rw [if_neg q6] at At7
        refine v_iconst C (pc' := 93) dX12_argumentFits_92 (v := (1 : Int32)) (by decide) rfl ?_
        refine v_goto C (pc' := 97) dX12_argumentFits_93 (by decide) ?_
        cases At7
        exact Kt7
    rw [if_neg q4] at E
    by_cases q9 : (cArg.getD x3 0) = (2 : Int32)
    · rw [if_pos q9] at E
      refine v_tabIn C (pc' := 98) dX12_argumentFits_42 (by rw [q9]; decide) (by rw [q9]; decide) (off := 56) (by rw [q9]; decide) (by decide) ?_
      refine v_aload_n C (pc' := 99) dX12_argumentFits_98 rfl rfl rfl ?_
      refine v_getF C (pc' := 102) rfl fl_X12_33 rfl rfl (t2 := 8) rfl (j := 0) rfl u0_0 dX12_argumentFits_99 rfl ?_
      refine v_aload_n C (pc' := 103) dX12_argumentFits_102 rfl rfl rfl ?_
      refine v_getF C (pc' := 106) rfl fl_X12_10 rfl rfl (t2 := 1) rfl (j := 0) rfl u0_0 dX12_argumentFits_103 rfl ?_
      obtain ⟨y10, hy10, E⟩ := bind_some E
      refine v_callV C (pc' := 109) (rest := []) (c_path_read l h _ _ hy10) mv_X12_240 rfl rfl lv0_8 dX12_argumentFits_106 rfl rfl rfl ⟨Nat.le_of_ble_eq_true rfl, Nat.le_of_ble_eq_true rfl⟩ (Nat.le_of_ble_eq_true rfl) ⟨Nat.le_of_ble_eq_true rfl, Nat.le_of_ble_eq_true rfl⟩ ?_
      refine V.st (st' := [aI y10.1]) rfl ?_
      obtain ⟨z11, E⟩ := guardZ_some E
      cases E
      exact v_retz C hr hlk z11 dX12_argumentFits_109
    rw [if_neg q9] at E
    by_cases q12 : (cArg.getD x3 0) = (3 : Int32)
    · rw [if_pos q12] at E
      refine v_tabIn C (pc' := 98) dX12_argumentFits_42 (by rw [q12]; decide) (by rw [q12]; decide) (off := 56) (by rw [q12]; decide) (by decide) ?_
      refine v_aload_n C (pc' := 99) dX12_argumentFits_98 rfl rfl rfl ?_
      refine v_getF C (pc' := 102) rfl fl_X12_33 rfl rfl (t2 := 8) rfl (j := 0) rfl u0_0 dX12_argumentFits_99 rfl ?_
      refine v_aload_n C (pc' := 103) dX12_argumentFits_102 rfl rfl rfl ?_
      refine v_getF C (pc' := 106) rfl fl_X12_10 rfl rfl (t2 := 1) rfl (j := 0) rfl u0_0 dX12_argumentFits_103 rfl ?_
      obtain ⟨y13, hy13, E⟩ := bind_some E
      refine v_callV C (pc' := 109) (rest := []) (c_path_read l h _ _ hy13) mv_X12_240 rfl rfl lv0_8 dX12_argumentFits_106 rfl rfl rfl ⟨Nat.le_of_ble_eq_true rfl, Nat.le_of_ble_eq_true rfl⟩ (Nat.le_of_ble_eq_true rfl) ⟨Nat.le_of_ble_eq_true rfl, Nat.le_of_ble_eq_true rfl⟩ ?_
      refine V.st (st' := [aI y13.1]) rfl ?_
      obtain ⟨z14, E⟩ := guardZ_some E
      cases E
      exact v_retz C hr hlk z14 dX12_argumentFits_109
    rw [if_neg q12] at E
    by_cases q15 : (cArg.getD x3 0) = (4 : Int32)
    · rw [if_pos q15] at E
      refine v_tabIn C (pc' := 110) dX12_argumentFits_42 (by rw [q15]; decide) (by rw [q15]; decide) (off := 68) (by rw [q15]; decide) (by decide) ?_
      refine v_aload_n C (pc' := 111) dX12_argumentFits_110 rfl rfl rfl ?_
      refine v_getF C (pc' := 114) rfl fl_X12_10 rfl rfl (t2 := 1) rfl (j := 0) rfl u0_0 dX12_argumentFits_111 rfl ?_
      obtain ⟨y16, hy16, E⟩ := bind_some E
      refine v_callV C (pc' := 117) (rest := []) (c_line_argumentNumber l h _ hy16) mv_X12_244 rfl rfl lv0_1 dX12_argumentFits_114 rfl rfl rfl ⟨Nat.le_of_ble_eq_true rfl, Nat.le_of_ble_eq_true rfl⟩ (Nat.le_of_ble_eq_true rfl) ⟨Nat.le_of_ble_eq_true rfl, Nat.le_of_ble_eq_true rfl⟩ ?_
      refine V.st (st' := [aI y16]) rfl ?_
      refine v_iconst C (pc' := 118) dX12_argumentFits_117 (v := (-1 : Int32)) (by decide) rfl ?_
      obtain ⟨t18, At18, E⟩ := bind_some E
      have Kt18 : V true G p l e { frames := 4, cells := 0, slots := 0, locals := 94 } s m args below meth c 2 (MQ below (QcA true G (some (aI r)) h') args s 0 0 (A_ G)) h 0 0 126 [some (aA 0 (some 0)), some (aA 100 p1)] [aI t18] := by
        obtain ⟨z19, E⟩ := guardZ_some E
        cases E
        exact v_retz C hr hlk z19 dX12_argumentFits_126
      refine v_icmp_eq C (tg := 125) (pc' := 121) dX12_argumentFits_118 (by decide) rfl (fun q17 => ?_) (fun q17 => ?_)
      · rw [if_pos q17] at At18
        refine v_iconst C (pc' := 126) dX12_argumentFits_125 (v := (0 : Int32)) (by decide) rfl ?_
        cases At18
        exact Kt18
      · rw [if_neg q17] at At18
        refine v_iconst C (pc' := 122) dX12_argumentFits_121 (v := (1 : Int32)) (by decide) rfl ?_
        refine v_goto C (pc' := 126) dX12_argumentFits_122 (by decide) ?_
        cases At18
        exact Kt18
    rw [if_neg q15] at E
    by_cases q20 : (cArg.getD x3 0) = (5 : Int32)
    · rw [if_pos q20] at E
      refine v_tabIn C (pc' := 127) dX12_argumentFits_42 (by rw [q20]; decide) (by rw [q20]; decide) (off := 85) (by rw [q20]; decide) (by decide) ?_
      refine v_aload_n C (pc' := 128) dX12_argumentFits_127 rfl rfl rfl ?_
      refine v_getF C (pc' := 131) rfl fl_X12_10 rfl rfl (t2 := 1) rfl (j := 0) rfl u0_0 dX12_argumentFits_128 rfl ?_
      obtain ⟨y21, hy21, E⟩ := bind_some E
      refine v_callV C (pc' := 134) (rest := []) (c_line_argumentPort l h _ hy21) mv_X12_247 rfl rfl lv0_1 dX12_argumentFits_131 rfl rfl rfl ⟨Nat.le_of_ble_eq_true rfl, Nat.le_of_ble_eq_true rfl⟩ (Nat.le_of_ble_eq_true rfl) ⟨Nat.le_of_ble_eq_true rfl, Nat.le_of_ble_eq_true rfl⟩ ?_
      refine V.st (st' := [aI y21]) rfl ?_
      refine v_iconst C (pc' := 135) dX12_argumentFits_134 (v := (-1 : Int32)) (by decide) rfl ?_
      obtain ⟨t23, At23, E⟩ := bind_some E
      have Kt23 : V true G p l e { frames := 4, cells := 0, slots := 0, locals := 94 } s m args below meth c 2 (MQ below (QcA true G (some (aI r)) h') args s 0 0 (A_ G)) h 0 0 143 [some (aA 0 (some 0)), some (aA 100 p1)] [aI t23] := by
        obtain ⟨z24, E⟩ := guardZ_some E
        cases E
        exact v_retz C hr hlk z24 dX12_argumentFits_143
      refine v_icmp_eq C (tg := 142) (pc' := 138) dX12_argumentFits_135 (by decide) rfl (fun q22 => ?_) (fun q22 => ?_)
      · rw [if_pos q22] at At23
        refine v_iconst C (pc' := 143) dX12_argumentFits_142 (v := (0 : Int32)) (by decide) rfl ?_
        cases At23
        exact Kt23
      · rw [if_neg q22] at At23
        refine v_iconst C (pc' := 139) dX12_argumentFits_138 (v := (1 : Int32)) (by decide) rfl ?_
        refine v_goto C (pc' := 143) dX12_argumentFits_139 (by decide) ?_
        cases At23
        exact Kt23
    rw [if_neg q20] at E
    by_cases q25 : (cArg.getD x3 0) = (6 : Int32)
    · rw [if_pos q25] at E
      refine v_tabIn C (pc' := 144) dX12_argumentFits_42 (by rw [q25]; decide) (by rw [q25]; decide) (off := 102) (by rw [q25]; decide) (by decide) ?_
      refine v_iconst C (pc' := 145) dX12_argumentFits_144 (v := (1 : Int32)) (by decide) rfl ?_
      cases E
      exact v_retz C hr hlk (Or.inr rfl) dX12_argumentFits_145
    rw [if_neg q25] at E
    refine v_tabOut C (pc' := 146) dX12_argumentFits_42 (tab_out (lo := 1) (n := 6) (fun k hk => by rcases (show k = 0 ∨ k = 1 ∨ k = 2 ∨ k = 3 ∨ k = 4 ∨ k = 5 by omega) with rfl | rfl | rfl | rfl | rfl | rfl <;> intro z <;> first | exact q4 (z.trans (by decide)) | exact q9 (z.trans (by decide)) | exact q12 (z.trans (by decide)) | exact q15 (z.trans (by decide)) | exact q20 (z.trans (by decide)) | exact q25 (z.trans (by decide)))) (by decide) ?_
    refine v_iconst C (pc' := 147) dX12_argumentFits_146 (v := (0 : Int32)) (by decide) rfl ?_
    cases E
    exact v_retz C hr hlk (Or.inl rfl) dX12_argumentFits_147
  · rw [if_pos q2] at E
    refine v_aload_n C (pc' := 11) dX12_argumentFits_10 rfl rfl rfl ?_
    refine v_getF C (pc' := 14) rfl fl_X12_33 rfl rfl (t2 := 8) rfl (j := 0) rfl u0_0 dX12_argumentFits_11 rfl ?_
    obtain ⟨y26, hy26, E⟩ := bind_some E
    refine v_callV C (pc' := 17) (rest := []) (c_path_stay l h _ hy26) mv_X12_233 rfl rfl lv0_8 dX12_argumentFits_14 rfl rfl rfl ⟨Nat.le_of_ble_eq_true rfl, Nat.le_of_ble_eq_true rfl⟩ (Nat.le_of_ble_eq_true rfl) ⟨Nat.le_of_ble_eq_true rfl, Nat.le_of_ble_eq_true rfl⟩ ?_
    refine V.st (st' := []) rfl ?_
    refine v_aload_n C (pc' := 18) dX12_argumentFits_17 rfl rfl rfl ?_
    obtain ⟨x27, hx27, E⟩ := bind_some E
    obtain ⟨hx27, bx27⟩ := nd_some hx27
    refine V.st (st' := [aA 100 (some x27)]) (by rw [hx27]) ?_
    refine v_kArg C (pc' := 21) bx27 (TT_of (i := 1254) (by decide +kernel) (by decide +kernel)) dX12_argumentFits_18 rfl ?_
    obtain ⟨t29, At29, E⟩ := bind_some E
    have Kt29 : V true G p l e { frames := 4, cells := 0, slots := 0, locals := 94 } s m args below meth c 2 (MQ below (QcA true G (some (aI r)) h') args s 0 0 (A_ G)) y26 0 0 37 [some (aA 0 (some 0)), some (aA 100 p1)] [aI t29] := by
      obtain ⟨z31, E⟩ := guardZ_some E
      cases E
      exact v_retz C hr hlk z31 dX12_argumentFits_37
    refine v_if_eq C (tg := 32) (pc' := 24) dX12_argumentFits_21 (by decide) rfl (fun q28 => ?_) (fun q28 => ?_)
    · rw [if_pos q28] at At29
      refine v_iconst C (pc' := 33) dX12_argumentFits_32 (v := (1 : Int32)) (by decide) rfl ?_
      refine v_goto C (pc' := 37) dX12_argumentFits_33 (by decide) ?_
      cases At29
      exact Kt29
    · rw [if_neg q28] at At29
      refine v_aload_n C (pc' := 25) dX12_argumentFits_24 rfl rfl rfl ?_
      refine V.st (st' := [aA 100 (some x27)]) (by rw [hx27]) ?_
      refine v_kArg C (pc' := 28) bx27 (TT_of (i := 1254) (by decide +kernel) (by decide +kernel)) dX12_argumentFits_25 rfl ?_
      refine v_iconst C (pc' := 29) dX12_argumentFits_28 (v := (3 : Int32)) (by decide) rfl ?_
      refine v_icmp_ne C (tg := 36) (pc' := 32) dX12_argumentFits_29 (by decide) rfl (fun q30 => ?_) (fun q30 => ?_)
      · rw [if_neg q30] at At29
        refine v_iconst C (pc' := 37) dX12_argumentFits_36 (v := (0 : Int32)) (by decide) rfl ?_
        cases At29
        exact Kt29
      · rw [if_pos q30] at At29
        refine v_iconst C (pc' := 33) dX12_argumentFits_32 (v := (1 : Int32)) (by decide) rfl ?_
        refine v_goto C (pc' := 37) dX12_argumentFits_33 (by decide) ?_
        cases At29
        exact Kt29

def path_findPlace (p1 : Option Nat) (h : Hp) : Option Hp :=
  if p1 = none then
    some (sL (sR h (8, 0) 5 none) (8, 0) 6 (0 : Int64))
  else
    (nd 24 p1).bind fun x2 =>
    if (gI (sL (sR h (8, 0) 5 none) (8, 0) 6 (0 : Int64)) (5, x2) 3) = 0 then
      some (sL (sR h (8, 0) 5 none) (8, 0) 6 (0 : Int64))
    else
      if (gI (sL (sR h (8, 0) 5 none) (8, 0) 6 (0 : Int64)) (8, 0) 3) = 0 then
        if (gI (sL (sR h (8, 0) 5 none) (8, 0) 6 (0 : Int64)) (8, 0) 1) = 0 then
          some (sL (sR h (8, 0) 5 none) (8, 0) 6 (0 : Int64))
        else
          guardB ((gI (sL (sR h (8, 0) 5 none) (8, 0) 6 (0 : Int64)) (8, 0) 1) - (1 : Int32)) 16 <|
          (name_isDots (gL (sL (sR h (8, 0) 5 none) (8, 0) 6 (0 : Int64)) (9, 0) ((gI (sL (sR h (8, 0) 5 none) (8, 0) 6 (0 : Int64)) (8, 0) 1) - (1 : Int32)).toNatClampNeg) (sL (sR h (8, 0) 5 none) (8, 0) 6 (0 : Int64))).bind fun y7 =>
          if y7 = 0 then
            guardB ((gI (sR (sL (sR h (8, 0) 5 none) (8, 0) 6 (0 : Int64)) (8, 0) 5 p1) (8, 0) 1) - (1 : Int32)) 16 <|
            some (sL (sR (sL (sR h (8, 0) 5 none) (8, 0) 6 (0 : Int64)) (8, 0) 5 p1) (8, 0) 6 (gL (sR (sL (sR h (8, 0) 5 none) (8, 0) 6 (0 : Int64)) (8, 0) 5 p1) (9, 0) ((gI (sR (sL (sR h (8, 0) 5 none) (8, 0) 6 (0 : Int64)) (8, 0) 5 p1) (8, 0) 1) - (1 : Int32)).toNatClampNeg))
          else
            some (sL (sR h (8, 0) 5 none) (8, 0) 6 (0 : Int64))
      else
        some (sL (sR h (8, 0) 5 none) (8, 0) 6 (0 : Int64))
set_option maxHeartbeats 2000000 in
set_option maxRecDepth 20000 in
theorem c_path_findPlace (l : Launch) (p1 : Option Nat) (h : Hp) (h' : Hp)  (E : path_findPlace p1 h = some h') : Ctr l yX9_findPlace cX9_findPlace 2 none 1 21 0 0 true [aA 8 (some 0), aA 5 p1] h none h' := by
  rw [path_findPlace] at E
  refine Ctr.of (ls0 := [some (aA 8 (some 0)), some (aA 5 p1)]) (by decide +kernel) (Nat.le_of_ble_eq_true rfl) rfl ?_
  intro G p e s m args below meth c C hr hlk hnm
  refine v_aload_n C (pc' := 1) dX9_findPlace_0 rfl rfl rfl ?_
  refine v_null C (pc' := 2) (t := 5) dX9_findPlace_1 rfl ?_
  refine v_putR C (pc' := 5) fp_X9_28 rfl rfl lv0_8 dX9_findPlace_2 rfl (t2 := 5) rfl (fun _ => ⟨rfl, by decide⟩) ?_
  refine v_aload_n C (pc' := 6) dX9_findPlace_5 rfl rfl rfl ?_
  refine v_lconst C (pc' := 7) dX9_findPlace_6 (v := (0 : Int64)) (by decide) rfl ?_
  refine v_putL C (pc' := 10) fp_X9_33 rfl rfl lv0_8 dX9_findPlace_7 rfl ?_
  refine v_aload_n C (pc' := 11) dX9_findPlace_10 rfl rfl rfl ?_
  refine v_ifnull C (tg := 52) (pc' := 14) dX9_findPlace_11 (by decide) rfl (fun q1 => ?_) (fun q1 => ?_)
  · rw [if_pos q1] at E
    cases E
    exact v_retv C hr hlk dX9_findPlace_52
  · rw [if_neg q1] at E
    refine v_aload_n C (pc' := 15) dX9_findPlace_14 rfl rfl rfl ?_
    obtain ⟨x2, hx2, E⟩ := bind_some E
    obtain ⟨hx2, bx2⟩ := nd_some hx2
    refine V.st (st' := [aA 5 (some x2)]) (by rw [hx2]) ?_
    refine v_getI C (pc' := 18) fl_X9_73 rfl (Or.inr rfl) (lvq_nd bx2) dX9_findPlace_15 rfl ?_
    refine v_if_eq C (tg := 52) (pc' := 21) dX9_findPlace_18 (by decide) rfl (fun q3 => ?_) (fun q3 => ?_)
    · rw [if_pos q3] at E
      cases E
      exact v_retv C hr hlk dX9_findPlace_52
    · rw [if_neg q3] at E
      refine v_aload_n C (pc' := 22) dX9_findPlace_21 rfl rfl rfl ?_
      refine v_getI C (pc' := 25) fl_X9_21 rfl (Or.inr rfl) lv0_8 dX9_findPlace_22 rfl ?_
      refine v_if_ne C (tg := 52) (pc' := 28) dX9_findPlace_25 (by decide) rfl (fun q4 => ?_) (fun q4 => ?_)
      · rw [if_neg q4] at E
        cases E
        exact v_retv C hr hlk dX9_findPlace_52
      · rw [if_pos q4] at E
        refine v_aload_n C (pc' := 29) dX9_findPlace_28 rfl rfl rfl ?_
        refine v_getI C (pc' := 32) fl_X9_13 rfl (Or.inl rfl) lv0_8 dX9_findPlace_29 rfl ?_
        refine v_if_eq C (tg := 52) (pc' := 35) dX9_findPlace_32 (by decide) rfl (fun q5 => ?_) (fun q5 => ?_)
        · rw [if_pos q5] at E
          cases E
          exact v_retv C hr hlk dX9_findPlace_52
        · rw [if_neg q5] at E
          refine v_aload_n C (pc' := 36) dX9_findPlace_35 rfl rfl rfl ?_
          refine v_getF C (pc' := 39) rfl fl_X9_7 rfl rfl (t2 := 9) rfl (j := 0) rfl u0_8 dX9_findPlace_36 rfl ?_
          refine v_aload_n C (pc' := 40) dX9_findPlace_39 rfl rfl rfl ?_
          refine v_getI C (pc' := 43) fl_X9_13 rfl (Or.inl rfl) lv0_8 dX9_findPlace_40 rfl ?_
          refine v_iconst C (pc' := 44) dX9_findPlace_43 (v := (1 : Int32)) (by decide) rfl ?_
          refine v_isub C (pc' := 45) dX9_findPlace_44 rfl ?_
          obtain ⟨g6, E⟩ := guardB_some E
          refine v_lald C (pc' := 46) (t := 9) rfl lv0_9 g6 dX9_findPlace_45 rfl ?_
          obtain ⟨y7, hy7, E⟩ := bind_some E
          refine v_callS C (pc' := 49) (rest := []) (c_name_isDots l (gL (sL (sR h (8, 0) 5 none) (8, 0) 6 (0 : Int64)) (9, 0) ((gI (sL (sR h (8, 0) 5 none) (8, 0) 6 (0 : Int64)) (8, 0) 1) - (1 : Int32)).toNatClampNeg) (sL (sR h (8, 0) 5 none) (8, 0) 6 (0 : Int64)) _ hy7) ms_X9_78 dX9_findPlace_46 rfl rfl rfl ⟨Nat.le_of_ble_eq_true rfl, Nat.le_of_ble_eq_true rfl⟩ (Nat.le_of_ble_eq_true rfl) ⟨Nat.le_of_ble_eq_true rfl, Nat.le_of_ble_eq_true rfl⟩ ?_
          refine V.st (st' := [aI y7]) rfl ?_
          refine v_if_eq C (tg := 53) (pc' := 52) dX9_findPlace_49 (by decide) rfl (fun q8 => ?_) (fun q8 => ?_)
          · rw [if_pos q8] at E
            refine v_aload_n C (pc' := 54) dX9_findPlace_53 rfl rfl rfl ?_
            refine v_aload_n C (pc' := 55) dX9_findPlace_54 rfl rfl rfl ?_
            refine v_putR C (pc' := 58) fp_X9_28 rfl rfl lv0_8 dX9_findPlace_55 rfl (t2 := 5) rfl (fun _ => ⟨rfl, by decide⟩) ?_
            refine v_aload_n C (pc' := 59) dX9_findPlace_58 rfl rfl rfl ?_
            refine v_aload_n C (pc' := 60) dX9_findPlace_59 rfl rfl rfl ?_
            refine v_getF C (pc' := 63) rfl fl_X9_7 rfl rfl (t2 := 9) rfl (j := 0) rfl u0_8 dX9_findPlace_60 rfl ?_
            refine v_aload_n C (pc' := 64) dX9_findPlace_63 rfl rfl rfl ?_
            refine v_getI C (pc' := 67) fl_X9_13 rfl (Or.inl rfl) lv0_8 dX9_findPlace_64 rfl ?_
            refine v_iconst C (pc' := 68) dX9_findPlace_67 (v := (1 : Int32)) (by decide) rfl ?_
            refine v_isub C (pc' := 69) dX9_findPlace_68 rfl ?_
            obtain ⟨g9, E⟩ := guardB_some E
            refine v_lald C (pc' := 70) (t := 9) rfl lv0_9 g9 dX9_findPlace_69 rfl ?_
            refine v_putL C (pc' := 73) fp_X9_33 rfl rfl lv0_8 dX9_findPlace_70 rfl ?_
            cases E
            exact v_retv C hr hlk dX9_findPlace_73
          · rw [if_neg q8] at E
            cases E
            exact v_retv C hr hlk dX9_findPlace_52

def path_walk_l22  : (Option Nat) × Int32 × Hp → Option (((Option Nat) × Int32 × Hp) ⊕ ((Option Nat) × Int32 × Hp))
  | (a4, a5, h) =>
    if (gI h (8, 0) 1) ≤ a5 then
      some (.inl (a4, a5, h))
    else
      guardB a5 16 <|
      (tree_step (gR h (8, 0) 4) (gL h (9, 0) a5.toNatClampNeg) h).bind fun y5 =>
      some (.inr ((gR h (8, 0) 4), (a5 + (1 : Int32)), (sR h (8, 0) 4 y5)))
def path_walk (p2 : Option Nat) (p3 : Option Nat) (h : Hp) : Option Hp :=
  (if (gI h (8, 0) 2) = 0 then
    some p3
  else
    some p2).bind fun t2 =>
  (iter (path_walk_l22) FU (none, (0 : Int32), (sR h (8, 0) 4 t2))).bind fun t6 =>
  (path_findPlace t6.1 t6.2.2).bind fun y7 =>
  (if (gI y7 (8, 0) 3) = 0 then
    some y7
  else
    (tree_step (gR y7 (8, 0) 4) (50577534877696 : Int64) y7).bind fun y10 =>
    some (sR y7 (8, 0) 4 y10)).bind fun t9 =>
  some t9
set_option maxHeartbeats 2000000 in
set_option maxRecDepth 20000 in
theorem c_path_walk (l : Launch) (p2 : Option Nat) (p3 : Option Nat) (h : Hp) (h' : Hp)  (E : path_walk p2 p3 h = some h') : Ctr l yX9_walk cX9_walk 6 none 2 50 0 0 true [aA 8 (some 0), aA 3 (some 0), aA 5 p2, aA 5 p3] h none h' := by
  rw [path_walk] at E
  refine Ctr.of (ls0 := [some (aA 8 (some 0)), some (aA 3 (some 0)), some (aA 5 p2), some (aA 5 p3), none, none]) (by decide +kernel) (Nat.le_of_ble_eq_true rfl) rfl ?_
  intro G p e s m args below meth c C hr hlk hnm
  refine v_null C (pc' := 1) (t := 5) dX9_walk_0 rfl ?_
  refine v_astore4 C (pc' := 3) dX9_walk_1 (by decide) rfl rfl ?_
  refine v_aload_n C (pc' := 4) dX9_walk_3 rfl rfl rfl ?_
  refine v_aload_n C (pc' := 5) dX9_walk_4 rfl rfl rfl ?_
  refine v_getI C (pc' := 8) fl_X9_17 rfl (Or.inr rfl) lv0_8 dX9_walk_5 rfl ?_
  obtain ⟨t2, At2, E⟩ := bind_some E
  have Kt2 : V true G p l e { frames := 2, cells := 0, slots := 0, locals := 50 } s m args below meth c 6 (MQ below (QcA true G none h') args s 0 0 (A_ G)) h 0 0 16 [some (aA 8 (some 0)), some (aA 3 (some 0)), some (aA 5 p2), some (aA 5 p3), some (aA 5 none), none] [aA 5 t2, aA 8 (some 0)] := by
    refine v_putR C (pc' := 19) fp_X9_24 rfl rfl lv0_8 dX9_walk_16 rfl (t2 := 5) rfl (fun _ => ⟨rfl, by decide⟩) ?_
    refine v_iconst C (pc' := 20) dX9_walk_19 (v := (0 : Int32)) (by decide) rfl ?_
    refine v_istore5 C (pc' := 22) dX9_walk_20 (by decide) rfl rfl ?_
    obtain ⟨t3, It3, E⟩ := bind_some E
    have Kt3 : V true G p l e { frames := 2, cells := 0, slots := 0, locals := 50 } s m args below meth c 6 (MQ below (QcA true G none h') args s 0 0 (A_ G)) t3.2.2 0 0 62 [some (aA 8 (some 0)), some (aA 3 (some 0)), some (aA 5 p2), some (aA 5 p3), some (aA 5 t3.1), some (aI t3.2.1)] [] := by
      refine v_aload_n C (pc' := 63) dX9_walk_62 rfl rfl rfl ?_
      refine v_aload C (pc' := 65) dX9_walk_63 rfl rfl ?_
      obtain ⟨y4, hy4, E⟩ := bind_some E
      refine v_callV C (pc' := 68) (rest := []) (c_path_findPlace l t3.1 t3.2.2 _ hy4) mv_X9_67 rfl rfl lv0_8 dX9_walk_65 rfl rfl rfl ⟨Nat.le_of_ble_eq_true rfl, Nat.le_of_ble_eq_true rfl⟩ (Nat.le_of_ble_eq_true rfl) ⟨Nat.le_of_ble_eq_true rfl, Nat.le_of_ble_eq_true rfl⟩ ?_
      refine V.st (st' := []) rfl ?_
      refine v_aload_n C (pc' := 69) dX9_walk_68 rfl rfl rfl ?_
      refine v_getI C (pc' := 72) fl_X9_21 rfl (Or.inr rfl) lv0_8 dX9_walk_69 rfl ?_
      obtain ⟨t6, At6, E⟩ := bind_some E
      have Kt6 : V true G p l e { frames := 2, cells := 0, slots := 0, locals := 50 } s m args below meth c 6 (MQ below (QcA true G none h') args s 0 0 (A_ G)) t6 0 0 90 [some (aA 8 (some 0)), some (aA 3 (some 0)), some (aA 5 p2), some (aA 5 p3), some (aA 5 t3.1), some (aI t3.2.1)] [] := by
        cases E
        exact v_retv C hr hlk dX9_walk_90
      refine v_if_eq C (tg := 90) (pc' := 75) dX9_walk_72 (by decide) rfl (fun q5 => ?_) (fun q5 => ?_)
      · rw [if_pos q5] at At6
        cases At6
        exact Kt6
      · rw [if_neg q5] at At6
        refine v_aload_n C (pc' := 76) dX9_walk_75 rfl rfl rfl ?_
        refine v_aload_n C (pc' := 77) dX9_walk_76 rfl rfl rfl ?_
        refine v_aload_n C (pc' := 78) dX9_walk_77 rfl rfl rfl ?_
        refine v_getR C (pc' := 81) fl_X9_24 rfl rfl (t2 := 5) rfl lv0_8 dX9_walk_78 rfl ?_
        refine v_ldc2 C (pc' := 84) dX9_walk_81 (v := (50577534877696 : Int64)) (TT_of (i := 661) (by decide +kernel) (by decide +kernel)) rfl ?_
        obtain ⟨y7, hy7, At6⟩ := bind_some At6
        refine v_callV C (pc' := 87) (rest := [aA 8 (some 0)]) (c_tree_step l (gR y4 (8, 0) 4) (50577534877696 : Int64) y4 _ hy7) mv_X9_61 rfl rfl lv0_3 dX9_walk_84 rfl rfl rfl ⟨Nat.le_of_ble_eq_true rfl, Nat.le_of_ble_eq_true rfl⟩ (Nat.le_of_ble_eq_true rfl) ⟨Nat.le_of_ble_eq_true rfl, Nat.le_of_ble_eq_true rfl⟩ ?_
        refine V.st (st' := [aA 5 y7, aA 8 (some 0)]) rfl ?_
        refine v_putR C (pc' := 90) fp_X9_24 rfl rfl lv0_8 dX9_walk_87 rfl (t2 := 5) rfl (fun _ => ⟨rfl, by decide⟩) ?_
        cases At6
        exact Kt6
    refine iter_V (P := fun st3 : (Option Nat) × Int32 × Hp => V true G p l e { frames := 2, cells := 0, slots := 0, locals := 50 } s m args below meth c 6 (MQ below (QcA true G none h') args s 0 0 (A_ G)) st3.2.2 0 0 22 [some (aA 8 (some 0)), some (aA 3 (some 0)), some (aA 5 p2), some (aA 5 p3), some (aA 5 st3.1), some (aI st3.2.1)] []) ?_ _ _ It3
    rintro ⟨a4t3, a5t3, ht3⟩ ot3 Lt3 kxt3 kst3
    rw [path_walk_l22] at Lt3
    show V true G p l e { frames := 2, cells := 0, slots := 0, locals := 50 } s m args below meth c 6 (MQ below (QcA true G none h') args s 0 0 (A_ G)) ht3 0 0 22 [some (aA 8 (some 0)), some (aA 3 (some 0)), some (aA 5 p2), some (aA 5 p3), some (aA 5 a4t3), some (aI a5t3)] []
    refine v_iload C (pc' := 24) dX9_walk_22 rfl rfl ?_
    refine v_aload_n C (pc' := 25) dX9_walk_24 rfl rfl rfl ?_
    refine v_getI C (pc' := 28) fl_X9_13 rfl (Or.inl rfl) lv0_8 dX9_walk_25 rfl ?_
    refine v_icmp_ge C (tg := 62) (pc' := 31) dX9_walk_28 (by decide) rfl (fun q8 => ?_) (fun q8 => ?_)
    · rw [if_pos q8] at Lt3
      cases Lt3
      have z := kxt3 _ rfl
      subst z
      exact Kt3
    · rw [if_neg q8] at Lt3
      refine v_aload_n C (pc' := 32) dX9_walk_31 rfl rfl rfl ?_
      refine v_getR C (pc' := 35) fl_X9_24 rfl rfl (t2 := 5) rfl lv0_8 dX9_walk_32 rfl ?_
      refine v_astore4 C (pc' := 37) dX9_walk_35 (by decide) rfl rfl ?_
      refine v_aload_n C (pc' := 38) dX9_walk_37 rfl rfl rfl ?_
      refine v_aload_n C (pc' := 39) dX9_walk_38 rfl rfl rfl ?_
      refine v_aload_n C (pc' := 40) dX9_walk_39 rfl rfl rfl ?_
      refine v_getR C (pc' := 43) fl_X9_24 rfl rfl (t2 := 5) rfl lv0_8 dX9_walk_40 rfl ?_
      refine v_aload_n C (pc' := 44) dX9_walk_43 rfl rfl rfl ?_
      refine v_getF C (pc' := 47) rfl fl_X9_7 rfl rfl (t2 := 9) rfl (j := 0) rfl u0_8 dX9_walk_44 rfl ?_
      refine v_iload C (pc' := 49) dX9_walk_47 rfl rfl ?_
      obtain ⟨g9, Lt3⟩ := guardB_some Lt3
      refine v_lald C (pc' := 50) (t := 9) rfl lv0_9 g9 dX9_walk_49 rfl ?_
      obtain ⟨y10, hy10, Lt3⟩ := bind_some Lt3
      refine v_callV C (pc' := 53) (rest := [aA 8 (some 0)]) (c_tree_step l (gR ht3 (8, 0) 4) (gL ht3 (9, 0) a5t3.toNatClampNeg) ht3 _ hy10) mv_X9_61 rfl rfl lv0_3 dX9_walk_50 rfl rfl rfl ⟨Nat.le_of_ble_eq_true rfl, Nat.le_of_ble_eq_true rfl⟩ (Nat.le_of_ble_eq_true rfl) ⟨Nat.le_of_ble_eq_true rfl, Nat.le_of_ble_eq_true rfl⟩ ?_
      refine V.st (st' := [aA 5 y10, aA 8 (some 0)]) rfl ?_
      refine v_putR C (pc' := 56) fp_X9_24 rfl rfl lv0_8 dX9_walk_53 rfl (t2 := 5) rfl (fun _ => ⟨rfl, by decide⟩) ?_
      refine v_iinc5 C (pc' := 59) dX9_walk_56 (v := (a5t3 + (1 : Int32))) (by rw [show Int32.ofInt 1 = (1 : Int32) by decide]) (by decide) rfl rfl ?_
      refine v_goto C (pc' := 22) dX9_walk_59 (by decide) ?_
      cases Lt3
      exact kst3 _ rfl
  refine v_if_eq C (tg := 15) (pc' := 11) dX9_walk_8 (by decide) rfl (fun q1 => ?_) (fun q1 => ?_)
  · rw [if_pos q1] at At2
    refine v_aload_n C (pc' := 16) dX9_walk_15 rfl rfl rfl ?_
    cases At2
    exact Kt2
  · rw [if_neg q1] at At2
    refine v_aload_n C (pc' := 12) dX9_walk_11 rfl rfl rfl ?_
    refine v_goto C (pc' := 16) dX9_walk_12 (by decide) ?_
    cases At2
    exact Kt2

def r_changeTo (p1 : Option Nat) (p2 : Int32) (h : Hp) : Option (Int32 × Hp) :=
  if p1 = none then
    some ((550 : Int32), h)
  else
    (nd 24 p1).bind fun x2 =>
    if (gI h (5, x2) 3) = 0 then
      some ((550 : Int32), h)
    else
      some (p2, (sR h (0, 0) 11 p1))
set_option maxHeartbeats 2000000 in
set_option maxRecDepth 20000 in
theorem c_r_changeTo (l : Launch) (p1 : Option Nat) (p2 : Int32) (h : Hp) (r : Int32) (h' : Hp)  (E : r_changeTo p1 p2 h = some (r, h')) : Ctr l yX12_changeTo cX12_changeTo 3 (some .int) 0 0 0 0 true [aA 0 (some 0), aA 5 p1, aI p2] h (some (aI r)) h' := by
  rw [r_changeTo] at E
  refine Ctr.of (ls0 := [some (aA 0 (some 0)), some (aA 5 p1), some (aI p2)]) (by decide +kernel) (Nat.le_of_ble_eq_true rfl) rfl ?_
  intro G p e s m args below meth c C hr hlk hnm
  refine v_aload_n C (pc' := 1) dX12_changeTo_0 rfl rfl rfl ?_
  refine v_ifnull C (tg := 11) (pc' := 4) dX12_changeTo_1 (by decide) rfl (fun q1 => ?_) (fun q1 => ?_)
  · rw [if_pos q1] at E
    refine v_sipush C (pc' := 14) dX12_changeTo_11 (v := (550 : Int32)) (by decide) rfl ?_
    cases E
    exact v_reti C hr hlk dX12_changeTo_14
  · rw [if_neg q1] at E
    refine v_aload_n C (pc' := 5) dX12_changeTo_4 rfl rfl rfl ?_
    obtain ⟨x2, hx2, E⟩ := bind_some E
    obtain ⟨hx2, bx2⟩ := nd_some hx2
    refine V.st (st' := [aA 5 (some x2)]) (by rw [hx2]) ?_
    refine v_getI C (pc' := 8) fl_X12_330 rfl (Or.inr rfl) (lvq_nd bx2) dX12_changeTo_5 rfl ?_
    refine v_if_ne C (tg := 15) (pc' := 11) dX12_changeTo_8 (by decide) rfl (fun q3 => ?_) (fun q3 => ?_)
    · rw [if_neg q3] at E
      refine v_aload_n C (pc' := 16) dX12_changeTo_15 rfl rfl rfl ?_
      refine v_aload_n C (pc' := 17) dX12_changeTo_16 rfl rfl rfl ?_
      refine v_putR C (pc' := 20) fp_X12_73 rfl rfl lv0_0 dX12_changeTo_17 rfl (t2 := 5) rfl (fun _ => ⟨rfl, by decide⟩) ?_
      refine v_iload_n C (pc' := 21) dX12_changeTo_20 rfl rfl rfl ?_
      cases E
      exact v_reti C hr hlk dX12_changeTo_21
    · rw [if_pos q3] at E
      refine v_sipush C (pc' := 14) dX12_changeTo_11 (v := (550 : Int32)) (by decide) rfl ?_
      cases E
      exact v_reti C hr hlk dX12_changeTo_14

def name_signOf (p0 : Int64) (p2 : Int32) (h : Hp) : Option Int32 :=
  some ((p0.toUInt64 >>> (((8 : Int32) * ((5 : Int32) - p2)).toInt64.toUInt64 &&& Int64.toUInt64 63)).toInt64 &&& (255 : Int64)).toInt32
set_option maxHeartbeats 2000000 in
set_option maxRecDepth 20000 in
theorem c_name_signOf (l : Launch) (p0 : Int64) (p2 : Int32) (h : Hp) (r : Int32)  (E : name_signOf p0 p2 h = some r) : Ctr l yX7_signOf cX7_signOf 3 (some .int) 0 0 0 0 true [aL p0, aI p2] h (some (aI r)) h := by
  rw [name_signOf] at E
  refine Ctr.of (ls0 := [some (aL p0), none, some (aI p2)]) (by decide +kernel) (Nat.le_of_ble_eq_true rfl) rfl ?_
  intro G p e s m args below meth c C hr hlk hnm
  refine v_lload_n C (pc' := 1) dX7_signOf_0 rfl rfl rfl ?_
  refine v_bipush C (pc' := 3) dX7_signOf_1 (v := (8 : Int32)) (by decide) rfl ?_
  refine v_iconst C (pc' := 4) dX7_signOf_3 (v := (5 : Int32)) (by decide) rfl ?_
  refine v_iload_n C (pc' := 5) dX7_signOf_4 rfl rfl rfl ?_
  refine v_isub C (pc' := 6) dX7_signOf_5 rfl ?_
  refine v_imul C (pc' := 7) dX7_signOf_6 rfl ?_
  refine v_lushr C (pc' := 8) dX7_signOf_7 rfl ?_
  refine v_ldc2 C (pc' := 11) dX7_signOf_8 (v := (255 : Int64)) (TT_of (i := 357) (by decide +kernel) (by decide +kernel)) rfl ?_
  refine v_land C (pc' := 12) dX7_signOf_11 rfl ?_
  refine v_l2i C (pc' := 13) dX7_signOf_12 rfl ?_
  cases E
  exact v_reti C hr hlk dX7_signOf_13

def msg_putBefore (p1 : Int32) (h : Hp) : Option Hp :=
  (if (gI h (10, 0) 1) ≤ 0 then
    some h
  else
    guardB (gI (sI h (10, 0) 1 ((gI h (10, 0) 1) - (1 : Int32))) (10, 0) 1) 168 <|
    some (sI (sI h (10, 0) 1 ((gI h (10, 0) 1) - (1 : Int32))) (11, 0) (gI (sI h (10, 0) 1 ((gI h (10, 0) 1) - (1 : Int32))) (10, 0) 1).toNatClampNeg (vp_nar .char p1))).bind fun t2 =>
  some t2
set_option maxHeartbeats 2000000 in
set_option maxRecDepth 20000 in
theorem c_msg_putBefore (l : Launch) (p1 : Int32) (h : Hp) (h' : Hp)  (E : msg_putBefore p1 h = some h') : Ctr l yX6_putBefore cX6_putBefore 2 none 0 0 0 0 true [aA 10 (some 0), aI p1] h none h' := by
  rw [msg_putBefore] at E
  refine Ctr.of (ls0 := [some (aA 10 (some 0)), some (aI p1)]) (by decide +kernel) (Nat.le_of_ble_eq_true rfl) rfl ?_
  intro G p e s m args below meth c C hr hlk hnm
  refine v_aload_n C (pc' := 1) dX6_putBefore_0 rfl rfl rfl ?_
  refine v_getI C (pc' := 4) fl_X6_17 rfl (Or.inl rfl) lv0_10 dX6_putBefore_1 rfl ?_
  obtain ⟨t2, At2, E⟩ := bind_some E
  have Kt2 : V true G p l e { frames := 0, cells := 0, slots := 0, locals := 0 } s m args below meth c 2 (MQ below (QcA true G none h') args s 0 0 (A_ G)) t2 0 0 27 [some (aA 10 (some 0)), some (aI p1)] [] := by
    cases E
    exact v_retv C hr hlk dX6_putBefore_27
  refine v_if_le C (tg := 27) (pc' := 7) dX6_putBefore_4 (by decide) rfl (fun q1 => ?_) (fun q1 => ?_)
  · rw [if_pos q1] at At2
    cases At2
    exact Kt2
  · rw [if_neg q1] at At2
    refine v_aload_n C (pc' := 8) dX6_putBefore_7 rfl rfl rfl ?_
    refine v_dup C (pc' := 9) dX6_putBefore_8 rfl rfl ?_
    refine v_getI C (pc' := 12) fl_X6_17 rfl (Or.inl rfl) lv0_10 dX6_putBefore_9 rfl ?_
    refine v_iconst C (pc' := 13) dX6_putBefore_12 (v := (1 : Int32)) (by decide) rfl ?_
    refine v_isub C (pc' := 14) dX6_putBefore_13 rfl ?_
    refine v_putI C (pc' := 17) fp_X6_17 rfl rfl lv0_10 dX6_putBefore_14 rfl ?_
    refine v_aload_n C (pc' := 18) dX6_putBefore_17 rfl rfl rfl ?_
    refine v_getF C (pc' := 21) rfl fl_X6_11 rfl rfl (t2 := 11) rfl (j := 0) rfl u0_10 dX6_putBefore_18 rfl ?_
    refine v_aload_n C (pc' := 22) dX6_putBefore_21 rfl rfl rfl ?_
    refine v_getI C (pc' := 25) fl_X6_17 rfl (Or.inl rfl) lv0_10 dX6_putBefore_22 rfl ?_
    refine v_iload_n C (pc' := 26) dX6_putBefore_25 rfl rfl rfl ?_
    obtain ⟨g3, At2⟩ := guardB_some At2
    refine v_cast C (pc' := 27) (t := 11) rfl lv0_11 g3 dX6_putBefore_26 rfl ?_
    cases At2
    exact Kt2

def msg_putName_l2 (v1 : Int64) : Int32 × Hp → Option ((Int32 × Hp) ⊕ (Int32 × Hp))
  | (a3, h) =>
    if a3 < 0 then
      some (.inl (a3, h))
    else
      (name_signOf v1 a3 h).bind fun y2 =>
      (if y2 = 0 then
        some h
      else
        (msg_putBefore (y2.toUInt32 % 65536).toInt32 h).bind fun y5 =>
        some y5).bind fun t4 =>
      some (.inr ((a3 + (-1 : Int32)), t4))
def msg_putName (p1 : Int64) (h : Hp) : Option Hp :=
  (iter (msg_putName_l2 p1) FU ((5 : Int32), h)).bind fun t6 =>
  some t6.2
set_option maxHeartbeats 2000000 in
set_option maxRecDepth 20000 in
theorem c_msg_putName (l : Launch) (p1 : Int64) (h : Hp) (h' : Hp)  (E : msg_putName p1 h = some h') : Ctr l yX6_putName cX6_putName 5 none 1 22 0 0 true [aA 10 (some 0), aL p1] h none h' := by
  rw [msg_putName] at E
  refine Ctr.of (ls0 := [some (aA 10 (some 0)), some (aL p1), none, none, none]) (by decide +kernel) (Nat.le_of_ble_eq_true rfl) rfl ?_
  intro G p e s m args below meth c C hr hlk hnm
  refine v_iconst C (pc' := 1) dX6_putName_0 (v := (5 : Int32)) (by decide) rfl ?_
  refine v_istore3 C (pc' := 2) dX6_putName_1 (by decide) rfl rfl ?_
  obtain ⟨t1, It1, E⟩ := bind_some E
  have Kt1 : V true G p l e { frames := 1, cells := 0, slots := 0, locals := 22 } s m args below meth c 5 (MQ below (QcA true G none h') args s 0 0 (A_ G)) t1.2 0 0 31 [some (aA 10 (some 0)), some (aL p1), none, some (aI t1.1), none] [] := by
    cases E
    exact v_retv C hr hlk dX6_putName_31
  refine iter_V (P := fun st1 : Int32 × Hp => V true G p l e { frames := 1, cells := 0, slots := 0, locals := 22 } s m args below meth c 5 (MQ below (QcA true G none h') args s 0 0 (A_ G)) st1.2 0 0 2 [some (aA 10 (some 0)), some (aL p1), none, some (aI st1.1), none] []) ?_ _ _ It1
  rintro ⟨a3t1, ht1⟩ ot1 Lt1 kxt1 kst1
  rw [msg_putName_l2] at Lt1
  show V true G p l e { frames := 1, cells := 0, slots := 0, locals := 22 } s m args below meth c 5 (MQ below (QcA true G none h') args s 0 0 (A_ G)) ht1 0 0 2 [some (aA 10 (some 0)), some (aL p1), none, some (aI a3t1), none] []
  refine v_iload_n C (pc' := 3) dX6_putName_2 rfl rfl rfl ?_
  refine v_if_lt C (tg := 31) (pc' := 6) dX6_putName_3 (by decide) rfl (fun q2 => ?_) (fun q2 => ?_)
  · rw [if_pos q2] at Lt1
    cases Lt1
    have z := kxt1 _ rfl
    subst z
    exact Kt1
  · rw [if_neg q2] at Lt1
    refine v_lload_n C (pc' := 7) dX6_putName_6 rfl rfl rfl ?_
    refine v_iload_n C (pc' := 8) dX6_putName_7 rfl rfl rfl ?_
    obtain ⟨y3, hy3, Lt1⟩ := bind_some Lt1
    refine v_callS C (pc' := 11) (rest := []) (c_name_signOf l p1 a3t1 ht1 _ hy3) ms_X6_39 dX6_putName_8 rfl rfl rfl ⟨Nat.le_of_ble_eq_true rfl, Nat.le_of_ble_eq_true rfl⟩ (Nat.le_of_ble_eq_true rfl) ⟨Nat.le_of_ble_eq_true rfl, Nat.le_of_ble_eq_true rfl⟩ ?_
    refine V.st (st' := [aI y3]) rfl ?_
    refine v_istore4 C (pc' := 13) dX6_putName_11 (by decide) rfl rfl ?_
    refine v_iload C (pc' := 15) dX6_putName_13 rfl rfl ?_
    obtain ⟨t5, At5, Lt1⟩ := bind_some Lt1
    have Kt5 : V true G p l e { frames := 1, cells := 0, slots := 0, locals := 22 } s m args below meth c 5 (MQ below (QcA true G none h') args s 0 0 (A_ G)) t5 0 0 25 [some (aA 10 (some 0)), some (aL p1), none, some (aI a3t1), some (aI y3)] [] := by
      refine v_iinc3 C (pc' := 28) dX6_putName_25 (v := (a3t1 + (-1 : Int32))) (by rw [show Int32.ofInt (-1) = (-1 : Int32) by decide]) (by decide) rfl rfl ?_
      refine v_goto C (pc' := 2) dX6_putName_28 (by decide) ?_
      cases Lt1
      exact V.ls (ms := [true, true, false, true, false]) rfl (kst1 _ rfl)
    refine v_if_eq C (tg := 25) (pc' := 18) dX6_putName_15 (by decide) rfl (fun q4 => ?_) (fun q4 => ?_)
    · rw [if_pos q4] at At5
      cases At5
      exact Kt5
    · rw [if_neg q4] at At5
      refine v_aload_n C (pc' := 19) dX6_putName_18 rfl rfl rfl ?_
      refine v_iload C (pc' := 21) dX6_putName_19 rfl rfl ?_
      refine v_i2c C (pc' := 22) dX6_putName_21 rfl ?_
      obtain ⟨y6, hy6, At5⟩ := bind_some At5
      refine v_callV C (pc' := 25) (rest := []) (c_msg_putBefore l (y3.toUInt32 % 65536).toInt32 ht1 _ hy6) mv_X6_35 rfl rfl lv0_10 dX6_putName_22 rfl rfl rfl ⟨Nat.le_of_ble_eq_true rfl, Nat.le_of_ble_eq_true rfl⟩ (Nat.le_of_ble_eq_true rfl) ⟨Nat.le_of_ble_eq_true rfl, Nat.le_of_ble_eq_true rfl⟩ ?_
      refine V.st (st' := []) rfl ?_
      cases At5
      exact Kt5

def msg_spellPath_l13  : (Option Nat) × Int32 × Hp → Option (((Option Nat) × Int32 × Hp) ⊕ ((Option Nat) × Int32 × Hp))
  | (a2, a3, h) =>
    if (24 : Int32) ≤ a3 then
      some (.inl (a2, a3, h))
    else
      if a2 = none then
        some (.inl (a2, a3, h))
      else
        (nd 24 a2).bind fun x3 =>
        if (gR h (5, x3) 5) = none then
          some (.inl (a2, a3, h))
        else
          (msg_putName (gL h (5, x3) 4) h).bind fun y5 =>
          (msg_putBefore (47 : Int32) y5).bind fun y6 =>
          some (.inr ((gR y6 (5, x3) 5), (a3 + (1 : Int32)), y6))
def msg_spellPath (p1 : Option Nat) (h : Hp) : Option Hp :=
  (iter (msg_spellPath_l13) FU (p1, (0 : Int32), (sI h (10, 0) 1 (168 : Int32)))).bind fun t7 =>
  (if (gI t7.2.2 (10, 0) 1) = (168 : Int32) then
    (msg_putBefore (47 : Int32) t7.2.2).bind fun y10 =>
    some y10
  else
    some t7.2.2).bind fun t9 =>
  some t9
set_option maxHeartbeats 2000000 in
set_option maxRecDepth 20000 in
theorem c_msg_spellPath (l : Launch) (p1 : Option Nat) (h : Hp) (h' : Hp)  (E : msg_spellPath p1 h = some h') : Ctr l yX6_spellPath cX6_spellPath 4 none 2 46 0 0 true [aA 10 (some 0), aA 5 p1] h none h' := by
  rw [msg_spellPath] at E
  refine Ctr.of (ls0 := [some (aA 10 (some 0)), some (aA 5 p1), none, none]) (by decide +kernel) (Nat.le_of_ble_eq_true rfl) rfl ?_
  intro G p e s m args below meth c C hr hlk hnm
  refine v_aload_n C (pc' := 1) dX6_spellPath_0 rfl rfl rfl ?_
  refine v_aload_n C (pc' := 2) dX6_spellPath_1 rfl rfl rfl ?_
  refine v_getF C (pc' := 5) rfl fl_X6_11 rfl rfl (t2 := 11) rfl (j := 0) rfl u0_10 dX6_spellPath_2 rfl ?_
  refine v_alen C (pc' := 6) (t := 11) rfl (by decide) lv0_11 (v := (168 : Int32)) (by decide) dX6_spellPath_5 rfl ?_
  refine v_putI C (pc' := 9) fp_X6_17 rfl rfl lv0_10 dX6_spellPath_6 rfl ?_
  refine v_aload_n C (pc' := 10) dX6_spellPath_9 rfl rfl rfl ?_
  refine v_astore2 C (pc' := 11) dX6_spellPath_10 (by decide) rfl rfl ?_
  refine v_iconst C (pc' := 12) dX6_spellPath_11 (v := (0 : Int32)) (by decide) rfl ?_
  refine v_istore3 C (pc' := 13) dX6_spellPath_12 (by decide) rfl rfl ?_
  obtain ⟨t1, It1, E⟩ := bind_some E
  have Kt1 : V true G p l e { frames := 2, cells := 0, slots := 0, locals := 46 } s m args below meth c 4 (MQ below (QcA true G none h') args s 0 0 (A_ G)) t1.2.2 0 0 55 [some (aA 10 (some 0)), some (aA 5 p1), some (aA 5 t1.1), some (aI t1.2.1)] [] := by
    refine v_aload_n C (pc' := 56) dX6_spellPath_55 rfl rfl rfl ?_
    refine v_getI C (pc' := 59) fl_X6_17 rfl (Or.inl rfl) lv0_10 dX6_spellPath_56 rfl ?_
    refine v_aload_n C (pc' := 60) dX6_spellPath_59 rfl rfl rfl ?_
    refine v_getF C (pc' := 63) rfl fl_X6_11 rfl rfl (t2 := 11) rfl (j := 0) rfl u0_10 dX6_spellPath_60 rfl ?_
    refine v_alen C (pc' := 64) (t := 11) rfl (by decide) lv0_11 (v := (168 : Int32)) (by decide) dX6_spellPath_63 rfl ?_
    obtain ⟨t3, At3, E⟩ := bind_some E
    have Kt3 : V true G p l e { frames := 2, cells := 0, slots := 0, locals := 46 } s m args below meth c 4 (MQ below (QcA true G none h') args s 0 0 (A_ G)) t3 0 0 73 [some (aA 10 (some 0)), some (aA 5 p1), some (aA 5 t1.1), some (aI t1.2.1)] [] := by
      cases E
      exact v_retv C hr hlk dX6_spellPath_73
    refine v_icmp_ne C (tg := 73) (pc' := 67) dX6_spellPath_64 (by decide) rfl (fun q2 => ?_) (fun q2 => ?_)
    · rw [if_neg q2] at At3
      cases At3
      exact Kt3
    · rw [if_pos q2] at At3
      refine v_aload_n C (pc' := 68) dX6_spellPath_67 rfl rfl rfl ?_
      refine v_bipush C (pc' := 70) dX6_spellPath_68 (v := (47 : Int32)) (by decide) rfl ?_
      obtain ⟨y4, hy4, At3⟩ := bind_some At3
      refine v_callV C (pc' := 73) (rest := []) (c_msg_putBefore l (47 : Int32) t1.2.2 _ hy4) mv_X6_35 rfl rfl lv0_10 dX6_spellPath_70 rfl rfl rfl ⟨Nat.le_of_ble_eq_true rfl, Nat.le_of_ble_eq_true rfl⟩ (Nat.le_of_ble_eq_true rfl) ⟨Nat.le_of_ble_eq_true rfl, Nat.le_of_ble_eq_true rfl⟩ ?_
      refine V.st (st' := []) rfl ?_
      cases At3
      exact Kt3
  refine iter_V (P := fun st1 : (Option Nat) × Int32 × Hp => V true G p l e { frames := 2, cells := 0, slots := 0, locals := 46 } s m args below meth c 4 (MQ below (QcA true G none h') args s 0 0 (A_ G)) st1.2.2 0 0 13 [some (aA 10 (some 0)), some (aA 5 p1), some (aA 5 st1.1), some (aI st1.2.1)] []) ?_ _ _ It1
  rintro ⟨a2t1, a3t1, ht1⟩ ot1 Lt1 kxt1 kst1
  rw [msg_spellPath_l13] at Lt1
  show V true G p l e { frames := 2, cells := 0, slots := 0, locals := 46 } s m args below meth c 4 (MQ below (QcA true G none h') args s 0 0 (A_ G)) ht1 0 0 13 [some (aA 10 (some 0)), some (aA 5 p1), some (aA 5 a2t1), some (aI a3t1)] []
  refine v_iload_n C (pc' := 14) dX6_spellPath_13 rfl rfl rfl ?_
  refine v_bipush C (pc' := 16) dX6_spellPath_14 (v := (24 : Int32)) (by decide) rfl ?_
  refine v_icmp_ge C (tg := 55) (pc' := 19) dX6_spellPath_16 (by decide) rfl (fun q5 => ?_) (fun q5 => ?_)
  · rw [if_pos q5] at Lt1
    cases Lt1
    have z := kxt1 _ rfl
    subst z
    exact Kt1
  · rw [if_neg q5] at Lt1
    refine v_aload_n C (pc' := 20) dX6_spellPath_19 rfl rfl rfl ?_
    refine v_ifnull C (tg := 55) (pc' := 23) dX6_spellPath_20 (by decide) rfl (fun q6 => ?_) (fun q6 => ?_)
    · rw [if_pos q6] at Lt1
      cases Lt1
      have z := kxt1 _ rfl
      subst z
      exact Kt1
    · rw [if_neg q6] at Lt1
      refine v_aload_n C (pc' := 24) dX6_spellPath_23 rfl rfl rfl ?_
      obtain ⟨x7, hx7, Lt1⟩ := bind_some Lt1
      obtain ⟨hx7, bx7⟩ := nd_some hx7
      refine V.st (st' := [aA 5 (some x7)]) (by rw [hx7]) ?_
      refine v_getR C (pc' := 27) fl_X6_21 rfl rfl (t2 := 5) rfl (lvq_nd bx7) dX6_spellPath_24 rfl ?_
      refine v_ifnull C (tg := 55) (pc' := 30) dX6_spellPath_27 (by decide) rfl (fun q8 => ?_) (fun q8 => ?_)
      · rw [if_pos q8] at Lt1
        cases Lt1
        have z := kxt1 _ rfl
        subst z
        exact Kt1
      · rw [if_neg q8] at Lt1
        refine v_aload_n C (pc' := 31) dX6_spellPath_30 rfl rfl rfl ?_
        refine v_aload_n C (pc' := 32) dX6_spellPath_31 rfl rfl rfl ?_
        refine V.st (st' := [aA 5 (some x7), aA 10 (some 0)]) (by rw [hx7]) ?_
        refine v_getL C (pc' := 35) fl_X6_27 rfl rfl (lvq_nd bx7) dX6_spellPath_32 rfl ?_
        obtain ⟨y9, hy9, Lt1⟩ := bind_some Lt1
        refine v_callV C (pc' := 38) (rest := []) (c_msg_putName l (gL ht1 (5, x7) 4) ht1 _ hy9) mv_X6_31 rfl rfl lv0_10 dX6_spellPath_35 rfl rfl rfl ⟨Nat.le_of_ble_eq_true rfl, Nat.le_of_ble_eq_true rfl⟩ (Nat.le_of_ble_eq_true rfl) ⟨Nat.le_of_ble_eq_true rfl, Nat.le_of_ble_eq_true rfl⟩ ?_
        refine V.st (st' := []) rfl ?_
        refine v_aload_n C (pc' := 39) dX6_spellPath_38 rfl rfl rfl ?_
        refine v_bipush C (pc' := 41) dX6_spellPath_39 (v := (47 : Int32)) (by decide) rfl ?_
        obtain ⟨y10, hy10, Lt1⟩ := bind_some Lt1
        refine v_callV C (pc' := 44) (rest := []) (c_msg_putBefore l (47 : Int32) y9 _ hy10) mv_X6_35 rfl rfl lv0_10 dX6_spellPath_41 rfl rfl rfl ⟨Nat.le_of_ble_eq_true rfl, Nat.le_of_ble_eq_true rfl⟩ (Nat.le_of_ble_eq_true rfl) ⟨Nat.le_of_ble_eq_true rfl, Nat.le_of_ble_eq_true rfl⟩ ?_
        refine V.st (st' := []) rfl ?_
        refine v_aload_n C (pc' := 45) dX6_spellPath_44 rfl rfl rfl ?_
        refine V.st (st' := [aA 5 (some x7)]) (by rw [hx7]) ?_
        refine v_getR C (pc' := 48) fl_X6_21 rfl rfl (t2 := 5) rfl (lvq_nd bx7) dX6_spellPath_45 rfl ?_
        refine v_astore2 C (pc' := 49) dX6_spellPath_48 (by decide) rfl rfl ?_
        refine v_iinc3 C (pc' := 52) dX6_spellPath_49 (v := (a3t1 + (1 : Int32))) (by rw [show Int32.ofInt 1 = (1 : Int32) by decide]) (by decide) rfl rfl ?_
        refine v_goto C (pc' := 13) dX6_spellPath_52 (by decide) ?_
        cases Lt1
        exact kst1 _ rfl

def r_makeDirectory  (h : Hp) : Option (Int32 × Hp) :=
  if (gR h (8, 0) 5) = none then
    some ((550 : Int32), h)
  else
    if (gR h (8, 0) 4) = none then
      (tree_add (gR h (8, 0) 5) (gL h (8, 0) 6) (1 : Int32) h).bind fun y3 =>
      if y3.1 = none then
        some ((550 : Int32), y3.2)
      else
        (msg_spellPath y3.1 y3.2).bind fun y5 =>
        some ((257 : Int32), y5)
    else
      some ((550 : Int32), h)
set_option maxHeartbeats 2000000 in
set_option maxRecDepth 20000 in
theorem c_r_makeDirectory (l : Launch)  (h : Hp) (r : Int32) (h' : Hp)  (E : r_makeDirectory  h = some (r, h')) : Ctr l yX12_makeDirectory cX12_makeDirectory 2 (some .int) 3 69 0 0 true [aA 0 (some 0)] h (some (aI r)) h' := by
  rw [r_makeDirectory] at E
  refine Ctr.of (ls0 := [some (aA 0 (some 0)), none]) (by decide +kernel) (Nat.le_of_ble_eq_true rfl) rfl ?_
  intro G p e s m args below meth c C hr hlk hnm
  refine v_aload_n C (pc' := 1) dX12_makeDirectory_0 rfl rfl rfl ?_
  refine v_getF C (pc' := 4) rfl fl_X12_33 rfl rfl (t2 := 8) rfl (j := 0) rfl u0_0 dX12_makeDirectory_1 rfl ?_
  refine v_getR C (pc' := 7) fl_X12_335 rfl rfl (t2 := 5) rfl lv0_8 dX12_makeDirectory_4 rfl ?_
  refine v_ifnull C (tg := 20) (pc' := 10) dX12_makeDirectory_7 (by decide) rfl (fun q1 => ?_) (fun q1 => ?_)
  · rw [if_pos q1] at E
    refine v_sipush C (pc' := 23) dX12_makeDirectory_20 (v := (550 : Int32)) (by decide) rfl ?_
    cases E
    exact v_reti C hr hlk dX12_makeDirectory_23
  · rw [if_neg q1] at E
    refine v_aload_n C (pc' := 11) dX12_makeDirectory_10 rfl rfl rfl ?_
    refine v_getF C (pc' := 14) rfl fl_X12_33 rfl rfl (t2 := 8) rfl (j := 0) rfl u0_0 dX12_makeDirectory_11 rfl ?_
    refine v_getR C (pc' := 17) fl_X12_294 rfl rfl (t2 := 5) rfl lv0_8 dX12_makeDirectory_14 rfl ?_
    refine v_ifnull C (tg := 24) (pc' := 20) dX12_makeDirectory_17 (by decide) rfl (fun q2 => ?_) (fun q2 => ?_)
    · rw [if_pos q2] at E
      refine v_aload_n C (pc' := 25) dX12_makeDirectory_24 rfl rfl rfl ?_
      refine v_getF C (pc' := 28) rfl fl_X12_19 rfl rfl (t2 := 3) rfl (j := 0) rfl u0_0 dX12_makeDirectory_25 rfl ?_
      refine v_aload_n C (pc' := 29) dX12_makeDirectory_28 rfl rfl rfl ?_
      refine v_getF C (pc' := 32) rfl fl_X12_33 rfl rfl (t2 := 8) rfl (j := 0) rfl u0_0 dX12_makeDirectory_29 rfl ?_
      refine v_getR C (pc' := 35) fl_X12_335 rfl rfl (t2 := 5) rfl lv0_8 dX12_makeDirectory_32 rfl ?_
      refine v_aload_n C (pc' := 36) dX12_makeDirectory_35 rfl rfl rfl ?_
      refine v_getF C (pc' := 39) rfl fl_X12_33 rfl rfl (t2 := 8) rfl (j := 0) rfl u0_0 dX12_makeDirectory_36 rfl ?_
      refine v_getL C (pc' := 42) fl_X12_338 rfl rfl lv0_8 dX12_makeDirectory_39 rfl ?_
      refine v_iconst C (pc' := 43) dX12_makeDirectory_42 (v := (1 : Int32)) (by decide) rfl ?_
      obtain ⟨y3, hy3, E⟩ := bind_some E
      refine v_callV C (pc' := 46) (rest := []) (c_tree_add l (gR h (8, 0) 5) (gL h (8, 0) 6) (1 : Int32) h _ _ hy3) mv_X12_111 rfl rfl lv0_3 dX12_makeDirectory_43 rfl rfl rfl ⟨Nat.le_of_ble_eq_true rfl, Nat.le_of_ble_eq_true rfl⟩ (Nat.le_of_ble_eq_true rfl) ⟨Nat.le_of_ble_eq_true rfl, Nat.le_of_ble_eq_true rfl⟩ ?_
      refine V.st (st' := [aA 5 y3.1]) rfl ?_
      refine v_astore1 C (pc' := 47) dX12_makeDirectory_46 (by decide) rfl rfl ?_
      refine v_aload_n C (pc' := 48) dX12_makeDirectory_47 rfl rfl rfl ?_
      refine v_ifnonnull C (tg := 55) (pc' := 51) dX12_makeDirectory_48 (by decide) rfl (fun q4 => ?_) (fun q4 => ?_)
      · rw [if_neg q4] at E
        refine v_aload_n C (pc' := 56) dX12_makeDirectory_55 rfl rfl rfl ?_
        refine v_getF C (pc' := 59) rfl fl_X12_40 rfl rfl (t2 := 10) rfl (j := 0) rfl u0_0 dX12_makeDirectory_56 rfl ?_
        refine v_aload_n C (pc' := 60) dX12_makeDirectory_59 rfl rfl rfl ?_
        obtain ⟨y5, hy5, E⟩ := bind_some E
        refine v_callV C (pc' := 63) (rest := []) (c_msg_spellPath l y3.1 y3.2 _ hy5) mv_X12_268 rfl rfl lv0_10 dX12_makeDirectory_60 rfl rfl rfl ⟨Nat.le_of_ble_eq_true rfl, Nat.le_of_ble_eq_true rfl⟩ (Nat.le_of_ble_eq_true rfl) ⟨Nat.le_of_ble_eq_true rfl, Nat.le_of_ble_eq_true rfl⟩ ?_
        refine V.st (st' := []) rfl ?_
        refine v_sipush C (pc' := 66) dX12_makeDirectory_63 (v := (257 : Int32)) (by decide) rfl ?_
        cases E
        exact v_reti C hr hlk dX12_makeDirectory_66
      · rw [if_pos q4] at E
        refine v_sipush C (pc' := 54) dX12_makeDirectory_51 (v := (550 : Int32)) (by decide) rfl ?_
        cases E
        exact v_reti C hr hlk dX12_makeDirectory_54
    · rw [if_neg q2] at E
      refine v_sipush C (pc' := 23) dX12_makeDirectory_20 (v := (550 : Int32)) (by decide) rfl ?_
      cases E
      exact v_reti C hr hlk dX12_makeDirectory_23

def node_free (th : Nat) (h : Hp) : Option Hp :=
  some (sI (sR (sI h (5, th) 2 (0 : Int32)) (5, th) 5 none) (5, th) 1 (0 : Int32))
set_option maxHeartbeats 2000000 in
set_option maxRecDepth 20000 in
theorem c_node_free (l : Launch) (th : Nat) (h : Hp) (h' : Hp) (hth : th < 24) (E : node_free th h = some h') : Ctr l yX8_free cX8_free 1 none 0 0 0 0 true [aA 5 (some th)] h none h' := by
  rw [node_free] at E
  refine Ctr.of (ls0 := [some (aA 5 (some th))]) (by decide +kernel) (Nat.le_of_ble_eq_true rfl) rfl ?_
  intro G p e s m args below meth c C hr hlk hnm
  refine v_aload_n C (pc' := 1) dX8_free_0 rfl rfl rfl ?_
  refine v_iconst C (pc' := 2) dX8_free_1 (v := (0 : Int32)) (by decide) rfl ?_
  refine v_putZ C (pc' := 5) fp_X8_17 rfl rfl (lvq_nd hth) dX8_free_2 rfl (Or.inl rfl) ?_
  refine v_aload_n C (pc' := 6) dX8_free_5 rfl rfl rfl ?_
  refine v_null C (pc' := 7) (t := 5) dX8_free_6 rfl ?_
  refine v_putR C (pc' := 10) fp_X8_30 rfl rfl (lvq_nd hth) dX8_free_7 rfl (t2 := 5) rfl (fun _ => ⟨rfl, by decide⟩) ?_
  refine v_aload_n C (pc' := 11) dX8_free_10 rfl rfl rfl ?_
  refine v_iconst C (pc' := 12) dX8_free_11 (v := (0 : Int32)) (by decide) rfl ?_
  refine v_putI C (pc' := 15) fp_X8_13 rfl rfl (lvq_nd hth) dX8_free_12 rfl ?_
  cases E
  exact v_retv C hr hlk dX8_free_15

def r_removeDirectory  (h : Hp) : Option (Int32 × Hp) :=
  if (gR h (8, 0) 4) = none then
    some ((550 : Int32), h)
  else
    (nd 24 (gR h (8, 0) 4)).bind fun x2 =>
    if (gI h (5, x2) 3) = 0 then
      some ((550 : Int32), h)
    else
      if (gR h (8, 0) 4) = (gR h (0, 0) 10) then
        some ((550 : Int32), h)
      else
        if (gR h (8, 0) 4) = (gR h (0, 0) 11) then
          some ((550 : Int32), h)
        else
          (tree_isEmpty (gR h (8, 0) 4) h).bind fun y6 =>
          if y6 = 0 then
            some ((550 : Int32), h)
          else
            (node_free x2 h).bind fun y8 =>
            some ((250 : Int32), y8)
set_option maxHeartbeats 2000000 in
set_option maxRecDepth 20000 in
theorem c_r_removeDirectory (l : Launch)  (h : Hp) (r : Int32) (h' : Hp)  (E : r_removeDirectory  h = some (r, h')) : Ctr l yX12_removeDirectory cX12_removeDirectory 2 (some .int) 2 50 0 0 true [aA 0 (some 0)] h (some (aI r)) h' := by
  rw [r_removeDirectory] at E
  refine Ctr.of (ls0 := [some (aA 0 (some 0)), none]) (by decide +kernel) (Nat.le_of_ble_eq_true rfl) rfl ?_
  intro G p e s m args below meth c C hr hlk hnm
  refine v_aload_n C (pc' := 1) dX12_removeDirectory_0 rfl rfl rfl ?_
  refine v_getF C (pc' := 4) rfl fl_X12_33 rfl rfl (t2 := 8) rfl (j := 0) rfl u0_0 dX12_removeDirectory_1 rfl ?_
  refine v_getR C (pc' := 7) fl_X12_294 rfl rfl (t2 := 5) rfl lv0_8 dX12_removeDirectory_4 rfl ?_
  refine v_astore1 C (pc' := 8) dX12_removeDirectory_7 (by decide) rfl rfl ?_
  refine v_aload_n C (pc' := 9) dX12_removeDirectory_8 rfl rfl rfl ?_
  refine v_ifnull C (tg := 46) (pc' := 12) dX12_removeDirectory_9 (by decide) rfl (fun q1 => ?_) (fun q1 => ?_)
  · rw [if_pos q1] at E
    refine v_sipush C (pc' := 49) dX12_removeDirectory_46 (v := (550 : Int32)) (by decide) rfl ?_
    cases E
    exact v_reti C hr hlk dX12_removeDirectory_49
  · rw [if_neg q1] at E
    refine v_aload_n C (pc' := 13) dX12_removeDirectory_12 rfl rfl rfl ?_
    obtain ⟨x2, hx2, E⟩ := bind_some E
    obtain ⟨hx2, bx2⟩ := nd_some hx2
    refine V.st (st' := [aA 5 (some x2)]) (by rw [hx2]) ?_
    refine v_getI C (pc' := 16) fl_X12_330 rfl (Or.inr rfl) (lvq_nd bx2) dX12_removeDirectory_13 rfl ?_
    refine v_if_eq C (tg := 46) (pc' := 19) dX12_removeDirectory_16 (by decide) rfl (fun q3 => ?_) (fun q3 => ?_)
    · rw [if_pos q3] at E
      refine v_sipush C (pc' := 49) dX12_removeDirectory_46 (v := (550 : Int32)) (by decide) rfl ?_
      cases E
      exact v_reti C hr hlk dX12_removeDirectory_49
    · rw [if_neg q3] at E
      refine v_aload_n C (pc' := 20) dX12_removeDirectory_19 rfl rfl rfl ?_
      refine v_aload_n C (pc' := 21) dX12_removeDirectory_20 rfl rfl rfl ?_
      refine v_getR C (pc' := 24) fl_X12_69 rfl rfl (t2 := 5) rfl lv0_0 dX12_removeDirectory_21 rfl ?_
      refine v_acmp_eq C (tg := 46) (pc' := 27) (inj5 G) dX12_removeDirectory_24 (by decide) rfl (fun q4 => ?_) (fun q4 => ?_)
      · rw [if_pos q4] at E
        refine v_sipush C (pc' := 49) dX12_removeDirectory_46 (v := (550 : Int32)) (by decide) rfl ?_
        cases E
        exact v_reti C hr hlk dX12_removeDirectory_49
      · rw [if_neg q4] at E
        refine v_aload_n C (pc' := 28) dX12_removeDirectory_27 rfl rfl rfl ?_
        refine v_aload_n C (pc' := 29) dX12_removeDirectory_28 rfl rfl rfl ?_
        refine v_getR C (pc' := 32) fl_X12_73 rfl rfl (t2 := 5) rfl lv0_0 dX12_removeDirectory_29 rfl ?_
        refine v_acmp_eq C (tg := 46) (pc' := 35) (inj5 G) dX12_removeDirectory_32 (by decide) rfl (fun q5 => ?_) (fun q5 => ?_)
        · rw [if_pos q5] at E
          refine v_sipush C (pc' := 49) dX12_removeDirectory_46 (v := (550 : Int32)) (by decide) rfl ?_
          cases E
          exact v_reti C hr hlk dX12_removeDirectory_49
        · rw [if_neg q5] at E
          refine v_aload_n C (pc' := 36) dX12_removeDirectory_35 rfl rfl rfl ?_
          refine v_getF C (pc' := 39) rfl fl_X12_19 rfl rfl (t2 := 3) rfl (j := 0) rfl u0_0 dX12_removeDirectory_36 rfl ?_
          refine v_aload_n C (pc' := 40) dX12_removeDirectory_39 rfl rfl rfl ?_
          obtain ⟨y6, hy6, E⟩ := bind_some E
          refine v_callV C (pc' := 43) (rest := []) (c_tree_isEmpty l (gR h (8, 0) 4) h _ hy6) mv_X12_341 rfl rfl lv0_3 dX12_removeDirectory_40 rfl rfl rfl ⟨Nat.le_of_ble_eq_true rfl, Nat.le_of_ble_eq_true rfl⟩ (Nat.le_of_ble_eq_true rfl) ⟨Nat.le_of_ble_eq_true rfl, Nat.le_of_ble_eq_true rfl⟩ ?_
          refine V.st (st' := [aI y6]) rfl ?_
          refine v_if_ne C (tg := 50) (pc' := 46) dX12_removeDirectory_43 (by decide) rfl (fun q7 => ?_) (fun q7 => ?_)
          · rw [if_neg q7] at E
            refine v_aload_n C (pc' := 51) dX12_removeDirectory_50 rfl rfl rfl ?_
            refine V.st (st' := [aA 5 (some x2)]) (by rw [hx2]) ?_
            obtain ⟨y8, hy8, E⟩ := bind_some E
            refine v_callV C (pc' := 54) (rest := []) (c_node_free l x2 h _ bx2 hy8) mv_X12_345 rfl rfl (lvq_nd bx2) dX12_removeDirectory_51 rfl rfl rfl ⟨Nat.le_of_ble_eq_true rfl, Nat.le_of_ble_eq_true rfl⟩ (Nat.le_of_ble_eq_true rfl) ⟨Nat.le_of_ble_eq_true rfl, Nat.le_of_ble_eq_true rfl⟩ ?_
            refine V.st (st' := []) rfl ?_
            refine v_sipush C (pc' := 57) dX12_removeDirectory_54 (v := (250 : Int32)) (by decide) rfl ?_
            cases E
            exact v_reti C hr hlk dX12_removeDirectory_57
          · rw [if_pos q7] at E
            refine v_sipush C (pc' := 49) dX12_removeDirectory_46 (v := (550 : Int32)) (by decide) rfl ?_
            cases E
            exact v_reti C hr hlk dX12_removeDirectory_49

def r_deleteFile  (h : Hp) : Option (Int32 × Hp) :=
  if (gR h (8, 0) 4) = none then
    some ((550 : Int32), h)
  else
    (nd 24 (gR h (8, 0) 4)).bind fun x2 =>
    if (gI h (5, x2) 3) = 0 then
      (node_free x2 h).bind fun y4 =>
      some ((250 : Int32), y4)
    else
      some ((550 : Int32), h)
set_option maxHeartbeats 2000000 in
set_option maxRecDepth 20000 in
theorem c_r_deleteFile (l : Launch)  (h : Hp) (r : Int32) (h' : Hp)  (E : r_deleteFile  h = some (r, h')) : Ctr l yX12_deleteFile cX12_deleteFile 2 (some .int) 1 20 0 0 true [aA 0 (some 0)] h (some (aI r)) h' := by
  rw [r_deleteFile] at E
  refine Ctr.of (ls0 := [some (aA 0 (some 0)), none]) (by decide +kernel) (Nat.le_of_ble_eq_true rfl) rfl ?_
  intro G p e s m args below meth c C hr hlk hnm
  refine v_aload_n C (pc' := 1) dX12_deleteFile_0 rfl rfl rfl ?_
  refine v_getF C (pc' := 4) rfl fl_X12_33 rfl rfl (t2 := 8) rfl (j := 0) rfl u0_0 dX12_deleteFile_1 rfl ?_
  refine v_getR C (pc' := 7) fl_X12_294 rfl rfl (t2 := 5) rfl lv0_8 dX12_deleteFile_4 rfl ?_
  refine v_astore1 C (pc' := 8) dX12_deleteFile_7 (by decide) rfl rfl ?_
  refine v_aload_n C (pc' := 9) dX12_deleteFile_8 rfl rfl rfl ?_
  refine v_ifnull C (tg := 19) (pc' := 12) dX12_deleteFile_9 (by decide) rfl (fun q1 => ?_) (fun q1 => ?_)
  · rw [if_pos q1] at E
    refine v_sipush C (pc' := 22) dX12_deleteFile_19 (v := (550 : Int32)) (by decide) rfl ?_
    cases E
    exact v_reti C hr hlk dX12_deleteFile_22
  · rw [if_neg q1] at E
    refine v_aload_n C (pc' := 13) dX12_deleteFile_12 rfl rfl rfl ?_
    obtain ⟨x2, hx2, E⟩ := bind_some E
    obtain ⟨hx2, bx2⟩ := nd_some hx2
    refine V.st (st' := [aA 5 (some x2)]) (by rw [hx2]) ?_
    refine v_getI C (pc' := 16) fl_X12_330 rfl (Or.inr rfl) (lvq_nd bx2) dX12_deleteFile_13 rfl ?_
    refine v_if_eq C (tg := 23) (pc' := 19) dX12_deleteFile_16 (by decide) rfl (fun q3 => ?_) (fun q3 => ?_)
    · rw [if_pos q3] at E
      refine v_aload_n C (pc' := 24) dX12_deleteFile_23 rfl rfl rfl ?_
      refine V.st (st' := [aA 5 (some x2)]) (by rw [hx2]) ?_
      obtain ⟨y4, hy4, E⟩ := bind_some E
      refine v_callV C (pc' := 27) (rest := []) (c_node_free l x2 h _ bx2 hy4) mv_X12_345 rfl rfl (lvq_nd bx2) dX12_deleteFile_24 rfl rfl rfl ⟨Nat.le_of_ble_eq_true rfl, Nat.le_of_ble_eq_true rfl⟩ (Nat.le_of_ble_eq_true rfl) ⟨Nat.le_of_ble_eq_true rfl, Nat.le_of_ble_eq_true rfl⟩ ?_
      refine V.st (st' := []) rfl ?_
      refine v_sipush C (pc' := 30) dX12_deleteFile_27 (v := (250 : Int32)) (by decide) rfl ?_
      cases E
      exact v_reti C hr hlk dX12_deleteFile_30
    · rw [if_neg q3] at E
      refine v_sipush C (pc' := 22) dX12_deleteFile_19 (v := (550 : Int32)) (by decide) rfl ?_
      cases E
      exact v_reti C hr hlk dX12_deleteFile_22

def msg_spellNumber (p1 : Int32) (h : Hp) : Option Hp :=
  (if p1 < (10 : Int32) then
    (msg_putBefore (((48 : Int32) + p1).toUInt32 % 65536).toInt32 (sI h (10, 0) 1 (168 : Int32))).bind fun y3 =>
    some y3
  else
    (msg_putBefore (((48 : Int32) + (p1 - (p1 / (10 : Int32)) * (10 : Int32))).toUInt32 % 65536).toInt32 (sI h (10, 0) 1 (168 : Int32))).bind fun y4 =>
    (msg_putBefore (((48 : Int32) + (p1 / (10 : Int32))).toUInt32 % 65536).toInt32 y4).bind fun y5 =>
    some y5).bind fun t2 =>
  some t2
set_option maxHeartbeats 2000000 in
set_option maxRecDepth 20000 in
theorem c_msg_spellNumber (l : Launch) (p1 : Int32) (h : Hp) (h' : Hp)  (E : msg_spellNumber p1 h = some h') : Ctr l yX6_spellNumber cX6_spellNumber 2 none 1 21 0 0 true [aA 10 (some 0), aI p1] h none h' := by
  rw [msg_spellNumber] at E
  refine Ctr.of (ls0 := [some (aA 10 (some 0)), some (aI p1)]) (by decide +kernel) (Nat.le_of_ble_eq_true rfl) rfl ?_
  intro G p e s m args below meth c C hr hlk hnm
  refine v_aload_n C (pc' := 1) dX6_spellNumber_0 rfl rfl rfl ?_
  refine v_aload_n C (pc' := 2) dX6_spellNumber_1 rfl rfl rfl ?_
  refine v_getF C (pc' := 5) rfl fl_X6_11 rfl rfl (t2 := 11) rfl (j := 0) rfl u0_10 dX6_spellNumber_2 rfl ?_
  refine v_alen C (pc' := 6) (t := 11) rfl (by decide) lv0_11 (v := (168 : Int32)) (by decide) dX6_spellNumber_5 rfl ?_
  refine v_putI C (pc' := 9) fp_X6_17 rfl rfl lv0_10 dX6_spellNumber_6 rfl ?_
  refine v_iload_n C (pc' := 10) dX6_spellNumber_9 rfl rfl rfl ?_
  refine v_bipush C (pc' := 12) dX6_spellNumber_10 (v := (10 : Int32)) (by decide) rfl ?_
  obtain ⟨t2, At2, E⟩ := bind_some E
  have Kt2 : V true G p l e { frames := 1, cells := 0, slots := 0, locals := 21 } s m args below meth c 2 (MQ below (QcA true G none h') args s 0 0 (A_ G)) t2 0 0 51 [some (aA 10 (some 0)), some (aI p1)] [] := by
    cases E
    exact v_retv C hr hlk dX6_spellNumber_51
  refine v_icmp_lt C (tg := 42) (pc' := 15) dX6_spellNumber_12 (by decide) rfl (fun q1 => ?_) (fun q1 => ?_)
  · rw [if_pos q1] at At2
    refine v_aload_n C (pc' := 43) dX6_spellNumber_42 rfl rfl rfl ?_
    refine v_bipush C (pc' := 45) dX6_spellNumber_43 (v := (48 : Int32)) (by decide) rfl ?_
    refine v_iload_n C (pc' := 46) dX6_spellNumber_45 rfl rfl rfl ?_
    refine v_iadd C (pc' := 47) dX6_spellNumber_46 rfl ?_
    refine v_i2c C (pc' := 48) dX6_spellNumber_47 rfl ?_
    obtain ⟨y3, hy3, At2⟩ := bind_some At2
    refine v_callV C (pc' := 51) (rest := []) (c_msg_putBefore l (((48 : Int32) + p1).toUInt32 % 65536).toInt32 (sI h (10, 0) 1 (168 : Int32)) _ hy3) mv_X6_35 rfl rfl lv0_10 dX6_spellNumber_48 rfl rfl rfl ⟨Nat.le_of_ble_eq_true rfl, Nat.le_of_ble_eq_true rfl⟩ (Nat.le_of_ble_eq_true rfl) ⟨Nat.le_of_ble_eq_true rfl, Nat.le_of_ble_eq_true rfl⟩ ?_
    refine V.st (st' := []) rfl ?_
    cases At2
    exact Kt2
  · rw [if_neg q1] at At2
    refine v_aload_n C (pc' := 16) dX6_spellNumber_15 rfl rfl rfl ?_
    refine v_bipush C (pc' := 18) dX6_spellNumber_16 (v := (48 : Int32)) (by decide) rfl ?_
    refine v_iload_n C (pc' := 19) dX6_spellNumber_18 rfl rfl rfl ?_
    refine v_bipush C (pc' := 21) dX6_spellNumber_19 (v := (10 : Int32)) (by decide) rfl ?_
    refine v_irem C (pc' := 22) dX6_spellNumber_21 (by decide) rfl ?_
    refine v_iadd C (pc' := 23) dX6_spellNumber_22 rfl ?_
    refine v_i2c C (pc' := 24) dX6_spellNumber_23 rfl ?_
    obtain ⟨y4, hy4, At2⟩ := bind_some At2
    refine v_callV C (pc' := 27) (rest := []) (c_msg_putBefore l (((48 : Int32) + (p1 - (p1 / (10 : Int32)) * (10 : Int32))).toUInt32 % 65536).toInt32 (sI h (10, 0) 1 (168 : Int32)) _ hy4) mv_X6_35 rfl rfl lv0_10 dX6_spellNumber_24 rfl rfl rfl ⟨Nat.le_of_ble_eq_true rfl, Nat.le_of_ble_eq_true rfl⟩ (Nat.le_of_ble_eq_true rfl) ⟨Nat.le_of_ble_eq_true rfl, Nat.le_of_ble_eq_true rfl⟩ ?_
    refine V.st (st' := []) rfl ?_
    refine v_aload_n C (pc' := 28) dX6_spellNumber_27 rfl rfl rfl ?_
    refine v_bipush C (pc' := 30) dX6_spellNumber_28 (v := (48 : Int32)) (by decide) rfl ?_
    refine v_iload_n C (pc' := 31) dX6_spellNumber_30 rfl rfl rfl ?_
    refine v_bipush C (pc' := 33) dX6_spellNumber_31 (v := (10 : Int32)) (by decide) rfl ?_
    refine v_idiv C (pc' := 34) dX6_spellNumber_33 (by decide) rfl ?_
    refine v_iadd C (pc' := 35) dX6_spellNumber_34 rfl ?_
    refine v_i2c C (pc' := 36) dX6_spellNumber_35 rfl ?_
    obtain ⟨y5, hy5, At2⟩ := bind_some At2
    refine v_callV C (pc' := 39) (rest := []) (c_msg_putBefore l (((48 : Int32) + (p1 / (10 : Int32))).toUInt32 % 65536).toInt32 y4 _ hy5) mv_X6_35 rfl rfl lv0_10 dX6_spellNumber_36 rfl rfl rfl ⟨Nat.le_of_ble_eq_true rfl, Nat.le_of_ble_eq_true rfl⟩ (Nat.le_of_ble_eq_true rfl) ⟨Nat.le_of_ble_eq_true rfl, Nat.le_of_ble_eq_true rfl⟩ ?_
    refine V.st (st' := []) rfl ?_
    refine v_goto C (pc' := 51) dX6_spellNumber_39 (by decide) ?_
    cases At2
    exact Kt2

def r_tellSize  (h : Hp) : Option (Int32 × Hp) :=
  if (gR h (8, 0) 4) = none then
    some ((550 : Int32), h)
  else
    (nd 24 (gR h (8, 0) 4)).bind fun x2 =>
    if (gI h (5, x2) 3) = 0 then
      (msg_spellNumber (gI h (5, x2) 1) h).bind fun y4 =>
      some ((213 : Int32), y4)
    else
      some ((550 : Int32), h)
set_option maxHeartbeats 2000000 in
set_option maxRecDepth 20000 in
theorem c_r_tellSize (l : Launch)  (h : Hp) (r : Int32) (h' : Hp)  (E : r_tellSize  h = some (r, h')) : Ctr l yX12_tellSize cX12_tellSize 2 (some .int) 2 42 0 0 true [aA 0 (some 0)] h (some (aI r)) h' := by
  rw [r_tellSize] at E
  refine Ctr.of (ls0 := [some (aA 0 (some 0)), none]) (by decide +kernel) (Nat.le_of_ble_eq_true rfl) rfl ?_
  intro G p e s m args below meth c C hr hlk hnm
  refine v_aload_n C (pc' := 1) dX12_tellSize_0 rfl rfl rfl ?_
  refine v_getF C (pc' := 4) rfl fl_X12_33 rfl rfl (t2 := 8) rfl (j := 0) rfl u0_0 dX12_tellSize_1 rfl ?_
  refine v_getR C (pc' := 7) fl_X12_294 rfl rfl (t2 := 5) rfl lv0_8 dX12_tellSize_4 rfl ?_
  refine v_astore1 C (pc' := 8) dX12_tellSize_7 (by decide) rfl rfl ?_
  refine v_aload_n C (pc' := 9) dX12_tellSize_8 rfl rfl rfl ?_
  refine v_ifnull C (tg := 19) (pc' := 12) dX12_tellSize_9 (by decide) rfl (fun q1 => ?_) (fun q1 => ?_)
  · rw [if_pos q1] at E
    refine v_sipush C (pc' := 22) dX12_tellSize_19 (v := (550 : Int32)) (by decide) rfl ?_
    cases E
    exact v_reti C hr hlk dX12_tellSize_22
  · rw [if_neg q1] at E
    refine v_aload_n C (pc' := 13) dX12_tellSize_12 rfl rfl rfl ?_
    obtain ⟨x2, hx2, E⟩ := bind_some E
    obtain ⟨hx2, bx2⟩ := nd_some hx2
    refine V.st (st' := [aA 5 (some x2)]) (by rw [hx2]) ?_
    refine v_getI C (pc' := 16) fl_X12_330 rfl (Or.inr rfl) (lvq_nd bx2) dX12_tellSize_13 rfl ?_
    refine v_if_eq C (tg := 23) (pc' := 19) dX12_tellSize_16 (by decide) rfl (fun q3 => ?_) (fun q3 => ?_)
    · rw [if_pos q3] at E
      refine v_aload_n C (pc' := 24) dX12_tellSize_23 rfl rfl rfl ?_
      refine v_getF C (pc' := 27) rfl fl_X12_40 rfl rfl (t2 := 10) rfl (j := 0) rfl u0_0 dX12_tellSize_24 rfl ?_
      refine v_aload_n C (pc' := 28) dX12_tellSize_27 rfl rfl rfl ?_
      refine V.st (st' := [aA 5 (some x2), aA 10 (some 0)]) (by rw [hx2]) ?_
      refine v_getI C (pc' := 31) fl_X12_348 rfl (Or.inl rfl) (lvq_nd bx2) dX12_tellSize_28 rfl ?_
      obtain ⟨y4, hy4, E⟩ := bind_some E
      refine v_callV C (pc' := 34) (rest := []) (c_msg_spellNumber l (gI h (5, x2) 1) h _ hy4) mv_X12_350 rfl rfl lv0_10 dX12_tellSize_31 rfl rfl rfl ⟨Nat.le_of_ble_eq_true rfl, Nat.le_of_ble_eq_true rfl⟩ (Nat.le_of_ble_eq_true rfl) ⟨Nat.le_of_ble_eq_true rfl, Nat.le_of_ble_eq_true rfl⟩ ?_
      refine V.st (st' := []) rfl ?_
      refine v_sipush C (pc' := 37) dX12_tellSize_34 (v := (213 : Int32)) (by decide) rfl ?_
      cases E
      exact v_reti C hr hlk dX12_tellSize_37
    · rw [if_neg q3] at E
      refine v_sipush C (pc' := 22) dX12_tellSize_19 (v := (550 : Int32)) (by decide) rfl ?_
      cases E
      exact v_reti C hr hlk dX12_tellSize_22

def r_renameFrom  (h : Hp) : Option (Int32 × Hp) :=
  if (gR h (8, 0) 4) = none then
    some ((550 : Int32), h)
  else
    if (gR h (8, 0) 4) = (gR h (0, 0) 10) then
      some ((550 : Int32), h)
    else
      some ((350 : Int32), (sR h (14, 1) 2 (gR h (8, 0) 4)))
set_option maxHeartbeats 2000000 in
set_option maxRecDepth 20000 in
theorem c_r_renameFrom (l : Launch)  (h : Hp) (r : Int32) (h' : Hp)  (E : r_renameFrom  h = some (r, h')) : Ctr l yX12_renameFrom cX12_renameFrom 1 (some .int) 0 0 0 0 true [aA 0 (some 0)] h (some (aI r)) h' := by
  rw [r_renameFrom] at E
  refine Ctr.of (ls0 := [some (aA 0 (some 0))]) (by decide +kernel) (Nat.le_of_ble_eq_true rfl) rfl ?_
  intro G p e s m args below meth c C hr hlk hnm
  refine v_aload_n C (pc' := 1) dX12_renameFrom_0 rfl rfl rfl ?_
  refine v_getF C (pc' := 4) rfl fl_X12_33 rfl rfl (t2 := 8) rfl (j := 0) rfl u0_0 dX12_renameFrom_1 rfl ?_
  refine v_getR C (pc' := 7) fl_X12_294 rfl rfl (t2 := 5) rfl lv0_8 dX12_renameFrom_4 rfl ?_
  refine v_ifnull C (tg := 24) (pc' := 10) dX12_renameFrom_7 (by decide) rfl (fun q1 => ?_) (fun q1 => ?_)
  · rw [if_pos q1] at E
    refine v_sipush C (pc' := 27) dX12_renameFrom_24 (v := (550 : Int32)) (by decide) rfl ?_
    cases E
    exact v_reti C hr hlk dX12_renameFrom_27
  · rw [if_neg q1] at E
    refine v_aload_n C (pc' := 11) dX12_renameFrom_10 rfl rfl rfl ?_
    refine v_getF C (pc' := 14) rfl fl_X12_33 rfl rfl (t2 := 8) rfl (j := 0) rfl u0_0 dX12_renameFrom_11 rfl ?_
    refine v_getR C (pc' := 17) fl_X12_294 rfl rfl (t2 := 5) rfl lv0_8 dX12_renameFrom_14 rfl ?_
    refine v_aload_n C (pc' := 18) dX12_renameFrom_17 rfl rfl rfl ?_
    refine v_getR C (pc' := 21) fl_X12_69 rfl rfl (t2 := 5) rfl lv0_0 dX12_renameFrom_18 rfl ?_
    refine v_acmp_ne C (tg := 28) (pc' := 24) (inj5 G) dX12_renameFrom_21 (by decide) rfl (fun q2 => ?_) (fun q2 => ?_)
    · rw [if_neg q2] at E
      refine v_aload_n C (pc' := 29) dX12_renameFrom_28 rfl rfl rfl ?_
      refine v_getF C (pc' := 32) rfl fl_X12_58 rfl rfl (t2 := 14) rfl (j := 1) rfl u0_0 dX12_renameFrom_29 rfl ?_
      refine v_aload_n C (pc' := 33) dX12_renameFrom_32 rfl rfl rfl ?_
      refine v_getF C (pc' := 36) rfl fl_X12_33 rfl rfl (t2 := 8) rfl (j := 0) rfl u0_0 dX12_renameFrom_33 rfl ?_
      refine v_getR C (pc' := 39) fl_X12_294 rfl rfl (t2 := 5) rfl lv0_8 dX12_renameFrom_36 rfl ?_
      refine v_putR C (pc' := 42) fp_X12_354 rfl rfl (lvq_me (by decide)) dX12_renameFrom_39 rfl (t2 := 5) rfl (fun _ => ⟨rfl, by decide⟩) ?_
      refine v_sipush C (pc' := 45) dX12_renameFrom_42 (v := (350 : Int32)) (by decide) rfl ?_
      cases E
      exact v_reti C hr hlk dX12_renameFrom_45
    · rw [if_pos q2] at E
      refine v_sipush C (pc' := 27) dX12_renameFrom_24 (v := (550 : Int32)) (by decide) rfl ?_
      cases E
      exact v_reti C hr hlk dX12_renameFrom_27

def r_renameTo  (h : Hp) : Option (Int32 × Hp) :=
  if (gR h (14, 0) 2) = none then
    some ((503 : Int32), h)
  else
    if (gR h (8, 0) 5) = none then
      some ((553 : Int32), h)
    else
      if (gR h (8, 0) 4) = none then
        (tree_liesIn (gR h (8, 0) 5) (gR h (14, 0) 2) h).bind fun y4 =>
        if y4 = 0 then
          (nd 24 (gR h (14, 0) 2)).bind fun x6 =>
          some ((250 : Int32), (sL (sR h (5, x6) 5 (gR h (8, 0) 5)) (5, x6) 4 (gL (sR h (5, x6) 5 (gR h (8, 0) 5)) (8, 0) 6)))
        else
          some ((553 : Int32), h)
      else
        some ((553 : Int32), h)
set_option maxHeartbeats 2000000 in
set_option maxRecDepth 20000 in
theorem c_r_renameTo (l : Launch)  (h : Hp) (r : Int32) (h' : Hp)  (E : r_renameTo  h = some (r, h')) : Ctr l yX12_renameTo cX12_renameTo 2 (some .int) 1 24 0 0 true [aA 0 (some 0)] h (some (aI r)) h' := by
  rw [r_renameTo] at E
  refine Ctr.of (ls0 := [some (aA 0 (some 0)), none]) (by decide +kernel) (Nat.le_of_ble_eq_true rfl) rfl ?_
  intro G p e s m args below meth c C hr hlk hnm
  refine v_aload_n C (pc' := 1) dX12_renameTo_0 rfl rfl rfl ?_
  refine v_getF C (pc' := 4) rfl fl_X12_54 rfl rfl (t2 := 14) rfl (j := 0) rfl u0_0 dX12_renameTo_1 rfl ?_
  refine v_getR C (pc' := 7) fl_X12_354 rfl rfl (t2 := 5) rfl (lvq_me (by decide)) dX12_renameTo_4 rfl ?_
  refine v_astore1 C (pc' := 8) dX12_renameTo_7 (by decide) rfl rfl ?_
  refine v_aload_n C (pc' := 9) dX12_renameTo_8 rfl rfl rfl ?_
  refine v_ifnonnull C (tg := 16) (pc' := 12) dX12_renameTo_9 (by decide) rfl (fun q1 => ?_) (fun q1 => ?_)
  · rw [if_neg q1] at E
    refine v_aload_n C (pc' := 17) dX12_renameTo_16 rfl rfl rfl ?_
    refine v_getF C (pc' := 20) rfl fl_X12_33 rfl rfl (t2 := 8) rfl (j := 0) rfl u0_0 dX12_renameTo_17 rfl ?_
    refine v_getR C (pc' := 23) fl_X12_335 rfl rfl (t2 := 5) rfl lv0_8 dX12_renameTo_20 rfl ?_
    refine v_ifnull C (tg := 54) (pc' := 26) dX12_renameTo_23 (by decide) rfl (fun q2 => ?_) (fun q2 => ?_)
    · rw [if_pos q2] at E
      refine v_sipush C (pc' := 57) dX12_renameTo_54 (v := (553 : Int32)) (by decide) rfl ?_
      cases E
      exact v_reti C hr hlk dX12_renameTo_57
    · rw [if_neg q2] at E
      refine v_aload_n C (pc' := 27) dX12_renameTo_26 rfl rfl rfl ?_
      refine v_getF C (pc' := 30) rfl fl_X12_33 rfl rfl (t2 := 8) rfl (j := 0) rfl u0_0 dX12_renameTo_27 rfl ?_
      refine v_getR C (pc' := 33) fl_X12_294 rfl rfl (t2 := 5) rfl lv0_8 dX12_renameTo_30 rfl ?_
      refine v_ifnonnull C (tg := 54) (pc' := 36) dX12_renameTo_33 (by decide) rfl (fun q3 => ?_) (fun q3 => ?_)
      · rw [if_neg q3] at E
        refine v_sipush C (pc' := 57) dX12_renameTo_54 (v := (553 : Int32)) (by decide) rfl ?_
        cases E
        exact v_reti C hr hlk dX12_renameTo_57
      · rw [if_pos q3] at E
        refine v_aload_n C (pc' := 37) dX12_renameTo_36 rfl rfl rfl ?_
        refine v_getF C (pc' := 40) rfl fl_X12_19 rfl rfl (t2 := 3) rfl (j := 0) rfl u0_0 dX12_renameTo_37 rfl ?_
        refine v_aload_n C (pc' := 41) dX12_renameTo_40 rfl rfl rfl ?_
        refine v_getF C (pc' := 44) rfl fl_X12_33 rfl rfl (t2 := 8) rfl (j := 0) rfl u0_0 dX12_renameTo_41 rfl ?_
        refine v_getR C (pc' := 47) fl_X12_335 rfl rfl (t2 := 5) rfl lv0_8 dX12_renameTo_44 rfl ?_
        refine v_aload_n C (pc' := 48) dX12_renameTo_47 rfl rfl rfl ?_
        obtain ⟨y4, hy4, E⟩ := bind_some E
        refine v_callV C (pc' := 51) (rest := []) (c_tree_liesIn l (gR h (8, 0) 5) (gR h (14, 0) 2) h _ hy4) mv_X12_357 rfl rfl lv0_3 dX12_renameTo_48 rfl rfl rfl ⟨Nat.le_of_ble_eq_true rfl, Nat.le_of_ble_eq_true rfl⟩ (Nat.le_of_ble_eq_true rfl) ⟨Nat.le_of_ble_eq_true rfl, Nat.le_of_ble_eq_true rfl⟩ ?_
        refine V.st (st' := [aI y4]) rfl ?_
        refine v_if_eq C (tg := 58) (pc' := 54) dX12_renameTo_51 (by decide) rfl (fun q5 => ?_) (fun q5 => ?_)
        · rw [if_pos q5] at E
          refine v_aload_n C (pc' := 59) dX12_renameTo_58 rfl rfl rfl ?_
          refine v_aload_n C (pc' := 60) dX12_renameTo_59 rfl rfl rfl ?_
          refine v_getF C (pc' := 63) rfl fl_X12_33 rfl rfl (t2 := 8) rfl (j := 0) rfl u0_0 dX12_renameTo_60 rfl ?_
          refine v_getR C (pc' := 66) fl_X12_335 rfl rfl (t2 := 5) rfl lv0_8 dX12_renameTo_63 rfl ?_
          obtain ⟨x6, hx6, E⟩ := bind_some E
          obtain ⟨hx6, bx6⟩ := nd_some hx6
          refine V.st (st' := [aA 5 (gR h (8, 0) 5), aA 5 (some x6)]) (by rw [hx6]) ?_
          refine v_putR C (pc' := 69) fp_X12_361 rfl rfl (lvq_nd bx6) dX12_renameTo_66 rfl (t2 := 5) rfl (fun _ => ⟨rfl, by decide⟩) ?_
          refine v_aload_n C (pc' := 70) dX12_renameTo_69 rfl rfl rfl ?_
          refine v_aload_n C (pc' := 71) dX12_renameTo_70 rfl rfl rfl ?_
          refine v_getF C (pc' := 74) rfl fl_X12_33 rfl rfl (t2 := 8) rfl (j := 0) rfl u0_0 dX12_renameTo_71 rfl ?_
          refine v_getL C (pc' := 77) fl_X12_338 rfl rfl lv0_8 dX12_renameTo_74 rfl ?_
          refine V.st (st' := [aL (gL (sR h (5, x6) 5 (gR h (8, 0) 5)) (8, 0) 6), aA 5 (some x6)]) (by rw [hx6]) ?_
          refine v_putL C (pc' := 80) fp_X12_364 rfl rfl (lvq_nd bx6) dX12_renameTo_77 rfl ?_
          refine v_sipush C (pc' := 83) dX12_renameTo_80 (v := (250 : Int32)) (by decide) rfl ?_
          cases E
          exact v_reti C hr hlk dX12_renameTo_83
        · rw [if_neg q5] at E
          refine v_sipush C (pc' := 57) dX12_renameTo_54 (v := (553 : Int32)) (by decide) rfl ?_
          cases E
          exact v_reti C hr hlk dX12_renameTo_57
  · rw [if_pos q1] at E
    refine v_sipush C (pc' := 15) dX12_renameTo_12 (v := (503 : Int32)) (by decide) rfl ?_
    cases E
    exact v_reti C hr hlk dX12_renameTo_15

def r_dataConnects  (h : Hp) : Option (Int32 × Hp) :=
  guardW (gR h (0, 0) 13) <|
  if (gR h (0, 0) 13) = (some 2) then
    some ((1 : Int32), h)
  else
    guardW (gR h (0, 0) 13) <|
    if (gR h (0, 0) 13) = (some 3) then
      if (gI h (0, 0) 14) = (gI h (0, 0) 15) then
        some ((1 : Int32), h)
      else
        some ((0 : Int32), (sR h (0, 0) 13 (some 0)))
    else
      some ((0 : Int32), (sR h (0, 0) 13 (some 0)))
set_option maxHeartbeats 2000000 in
set_option maxRecDepth 20000 in
theorem c_r_dataConnects (l : Launch)  (h : Hp) (r : Int32) (h' : Hp)  (E : r_dataConnects  h = some (r, h')) : Ctr l yX12_dataConnects cX12_dataConnects 1 (some .boolean) 0 0 0 0 true [aA 0 (some 0)] h (some (aI r)) h' := by
  rw [r_dataConnects] at E
  refine Ctr.of (ls0 := [some (aA 0 (some 0))]) (by decide +kernel) (Nat.le_of_ble_eq_true rfl) rfl ?_
  intro G p e s m args below meth c C hr hlk hnm
  refine v_aload_n C (pc' := 1) dX12_dataConnects_0 rfl rfl rfl ?_
  refine v_getR C (pc' := 4) fl_X12_85 rfl rfl (t2 := 102) rfl lv0_0 dX12_dataConnects_1 rfl ?_
  refine v_gsW C (pc' := 7) (k := 2) (by decide) (TT_of (i := 745) (by decide +kernel) (by decide +kernel)) dX12_dataConnects_4 rfl ?_
  obtain ⟨w1, E⟩ := guardW_some E
  refine v_wcmp_eq C (tg := 31) (pc' := 10) w1 (fun i e => by cases e; decide) dX12_dataConnects_7 (by decide) rfl (fun q2 => ?_) (fun q2 => ?_)
  · rw [if_pos q2] at E
    refine v_iconst C (pc' := 32) dX12_dataConnects_31 (v := (1 : Int32)) (by decide) rfl ?_
    cases E
    exact v_retz C hr hlk (Or.inr rfl) dX12_dataConnects_32
  · rw [if_neg q2] at E
    refine v_aload_n C (pc' := 11) dX12_dataConnects_10 rfl rfl rfl ?_
    refine v_getR C (pc' := 14) fl_X12_85 rfl rfl (t2 := 102) rfl lv0_0 dX12_dataConnects_11 rfl ?_
    refine v_gsW C (pc' := 17) (k := 3) (by decide) (TT_of (i := 747) (by decide +kernel) (by decide +kernel)) dX12_dataConnects_14 rfl ?_
    obtain ⟨w3, E⟩ := guardW_some E
    refine v_wcmp_ne C (tg := 33) (pc' := 20) w3 (fun i e => by cases e; decide) dX12_dataConnects_17 (by decide) rfl (fun q4 => ?_) (fun q4 => ?_)
    · rw [if_neg q4] at E
      refine v_aload_n C (pc' := 34) dX12_dataConnects_33 rfl rfl rfl ?_
      refine v_gsW C (pc' := 37) (k := 0) (by decide) (TT_of (i := 299) (by decide +kernel) (by decide +kernel)) dX12_dataConnects_34 rfl ?_
      refine v_putR C (pc' := 40) fp_X12_85 rfl rfl lv0_0 dX12_dataConnects_37 rfl (t2 := 102) rfl (fun _ => ⟨rfl, by decide⟩) ?_
      refine v_iconst C (pc' := 41) dX12_dataConnects_40 (v := (0 : Int32)) (by decide) rfl ?_
      cases E
      exact v_retz C hr hlk (Or.inl rfl) dX12_dataConnects_41
    · rw [if_pos q4] at E
      refine v_aload_n C (pc' := 21) dX12_dataConnects_20 rfl rfl rfl ?_
      refine v_getI C (pc' := 24) fl_X12_88 rfl (Or.inl rfl) lv0_0 dX12_dataConnects_21 rfl ?_
      refine v_aload_n C (pc' := 25) dX12_dataConnects_24 rfl rfl rfl ?_
      refine v_getI C (pc' := 28) fl_X12_91 rfl (Or.inl rfl) lv0_0 dX12_dataConnects_25 rfl ?_
      refine v_icmp_ne C (tg := 33) (pc' := 31) dX12_dataConnects_28 (by decide) rfl (fun q5 => ?_) (fun q5 => ?_)
      · rw [if_neg q5] at E
        refine v_aload_n C (pc' := 34) dX12_dataConnects_33 rfl rfl rfl ?_
        refine v_gsW C (pc' := 37) (k := 0) (by decide) (TT_of (i := 299) (by decide +kernel) (by decide +kernel)) dX12_dataConnects_34 rfl ?_
        refine v_putR C (pc' := 40) fp_X12_85 rfl rfl lv0_0 dX12_dataConnects_37 rfl (t2 := 102) rfl (fun _ => ⟨rfl, by decide⟩) ?_
        refine v_iconst C (pc' := 41) dX12_dataConnects_40 (v := (0 : Int32)) (by decide) rfl ?_
        cases E
        exact v_retz C hr hlk (Or.inl rfl) dX12_dataConnects_41
      · rw [if_pos q5] at E
        refine v_iconst C (pc' := 32) dX12_dataConnects_31 (v := (1 : Int32)) (by decide) rfl ?_
        cases E
        exact v_retz C hr hlk (Or.inr rfl) dX12_dataConnects_32

def cargo_add (p1 : Int32) (h : Hp) : Option Hp :=
  (if (192 : Int32) ≤ (gI h (12, 0) 2) then
    some h
  else
    guardB (gI h (12, 0) 2) 192 <|
    some (sI (sI h (13, 0) (gI h (12, 0) 2).toNatClampNeg p1) (12, 0) 2 ((gI (sI h (13, 0) (gI h (12, 0) 2).toNatClampNeg p1) (12, 0) 2) + (1 : Int32)))).bind fun t2 =>
  some t2
set_option maxHeartbeats 2000000 in
set_option maxRecDepth 20000 in
theorem c_cargo_add (l : Launch) (p1 : Int32) (h : Hp) (h' : Hp)  (E : cargo_add p1 h = some h') : Ctr l yX2_add cX2_add 2 none 0 0 0 0 true [aA 12 (some 0), aI p1] h none h' := by
  rw [cargo_add] at E
  refine Ctr.of (ls0 := [some (aA 12 (some 0)), some (aI p1)]) (by decide +kernel) (Nat.le_of_ble_eq_true rfl) rfl ?_
  intro G p e s m args below meth c C hr hlk hnm
  refine v_aload_n C (pc' := 1) dX2_add_0 rfl rfl rfl ?_
  refine v_getI C (pc' := 4) fl_X2_23 rfl (Or.inl rfl) lv0_12 dX2_add_1 rfl ?_
  refine v_aload_n C (pc' := 5) dX2_add_4 rfl rfl rfl ?_
  refine v_getF C (pc' := 8) rfl fl_X2_13 rfl rfl (t2 := 13) rfl (j := 0) rfl u0_12 dX2_add_5 rfl ?_
  refine v_alen C (pc' := 9) (t := 13) rfl (by decide) lv0_13 (v := (192 : Int32)) (by decide) dX2_add_8 rfl ?_
  obtain ⟨t2, At2, E⟩ := bind_some E
  have Kt2 : V true G p l e { frames := 0, cells := 0, slots := 0, locals := 0 } s m args below meth c 2 (MQ below (QcA true G none h') args s 0 0 (A_ G)) t2 0 0 32 [some (aA 12 (some 0)), some (aI p1)] [] := by
    cases E
    exact v_retv C hr hlk dX2_add_32
  refine v_icmp_ge C (tg := 32) (pc' := 12) dX2_add_9 (by decide) rfl (fun q1 => ?_) (fun q1 => ?_)
  · rw [if_pos q1] at At2
    cases At2
    exact Kt2
  · rw [if_neg q1] at At2
    refine v_aload_n C (pc' := 13) dX2_add_12 rfl rfl rfl ?_
    refine v_getF C (pc' := 16) rfl fl_X2_13 rfl rfl (t2 := 13) rfl (j := 0) rfl u0_12 dX2_add_13 rfl ?_
    refine v_aload_n C (pc' := 17) dX2_add_16 rfl rfl rfl ?_
    refine v_getI C (pc' := 20) fl_X2_23 rfl (Or.inl rfl) lv0_12 dX2_add_17 rfl ?_
    refine v_iload_n C (pc' := 21) dX2_add_20 rfl rfl rfl ?_
    obtain ⟨g3, At2⟩ := guardB_some At2
    refine v_iast C (pc' := 22) (t := 13) rfl lv0_13 g3 dX2_add_21 rfl ?_
    refine v_aload_n C (pc' := 23) dX2_add_22 rfl rfl rfl ?_
    refine v_dup C (pc' := 24) dX2_add_23 rfl rfl ?_
    refine v_getI C (pc' := 27) fl_X2_23 rfl (Or.inl rfl) lv0_12 dX2_add_24 rfl ?_
    refine v_iconst C (pc' := 28) dX2_add_27 (v := (1 : Int32)) (by decide) rfl ?_
    refine v_iadd C (pc' := 29) dX2_add_28 rfl ?_
    refine v_putI C (pc' := 32) fp_X2_23 rfl rfl lv0_12 dX2_add_29 rfl ?_
    cases At2
    exact Kt2

def cargo_giveFile_l8 (v1 : Option Nat) (v3 : Int32) : Int32 × Hp → Option ((Int32 × Hp) ⊕ (Int32 × Hp))
  | (a4, h) =>
    if a4 < 0 then
      some (.inl (a4, h))
    else
      (nd 24 v1).bind fun x2 =>
      if (gI h (5, x2) 1) ≤ a4 then
        some (.inl (a4, h))
      else
        if (32 : Int32) ≤ a4 then
          some (.inl (a4, h))
        else
          (if v3 = 0 then
            some h
          else
            guardB a4 32 <|
            if (gI h (6, x2) a4.toNatClampNeg) = (10 : Int32) then
              (cargo_add (13 : Int32) h).bind fun y9 =>
              some y9
            else
              some h).bind fun t6 =>
          guardB a4 32 <|
          (cargo_add (gI t6 (6, x2) a4.toNatClampNeg) t6).bind fun y11 =>
          some (.inr ((a4 + (1 : Int32)), y11))
def cargo_giveFile (p1 : Option Nat) (p2 : Int32) (p3 : Int32) (h : Hp) : Option Hp :=
  (iter (cargo_giveFile_l8 p1 p3) FU (p2, (sI h (12, 0) 1 (1 : Int32)))).bind fun t12 =>
  some t12.2
set_option maxHeartbeats 2000000 in
set_option maxRecDepth 20000 in
theorem c_cargo_giveFile (l : Launch) (p1 : Option Nat) (p2 : Int32) (p3 : Int32) (h : Hp) (h' : Hp)  (E : cargo_giveFile p1 p2 p3 h = some h') : Ctr l yX2_giveFile cX2_giveFile 5 none 1 21 0 0 true [aA 12 (some 0), aA 5 p1, aI p2, aI p3] h none h' := by
  rw [cargo_giveFile] at E
  refine Ctr.of (ls0 := [some (aA 12 (some 0)), some (aA 5 p1), some (aI p2), some (aI p3), none]) (by decide +kernel) (Nat.le_of_ble_eq_true rfl) rfl ?_
  intro G p e s m args below meth c C hr hlk hnm
  refine v_aload_n C (pc' := 1) dX2_giveFile_0 rfl rfl rfl ?_
  refine v_iconst C (pc' := 2) dX2_giveFile_1 (v := (1 : Int32)) (by decide) rfl ?_
  refine v_putI C (pc' := 5) fp_X2_19 rfl rfl lv0_12 dX2_giveFile_2 rfl ?_
  refine v_iload_n C (pc' := 6) dX2_giveFile_5 rfl rfl rfl ?_
  refine v_istore4 C (pc' := 8) dX2_giveFile_6 (by decide) rfl rfl ?_
  obtain ⟨t1, It1, E⟩ := bind_some E
  have Kt1 : V true G p l e { frames := 1, cells := 0, slots := 0, locals := 21 } s m args below meth c 5 (MQ below (QcA true G none h') args s 0 0 (A_ G)) t1.2 0 0 71 [some (aA 12 (some 0)), some (aA 5 p1), some (aI p2), some (aI p3), some (aI t1.1)] [] := by
    cases E
    exact v_retv C hr hlk dX2_giveFile_71
  refine iter_V (P := fun st1 : Int32 × Hp => V true G p l e { frames := 1, cells := 0, slots := 0, locals := 21 } s m args below meth c 5 (MQ below (QcA true G none h') args s 0 0 (A_ G)) st1.2 0 0 8 [some (aA 12 (some 0)), some (aA 5 p1), some (aI p2), some (aI p3), some (aI st1.1)] []) ?_ _ _ It1
  rintro ⟨a4t1, ht1⟩ ot1 Lt1 kxt1 kst1
  rw [cargo_giveFile_l8] at Lt1
  show V true G p l e { frames := 1, cells := 0, slots := 0, locals := 21 } s m args below meth c 5 (MQ below (QcA true G none h') args s 0 0 (A_ G)) ht1 0 0 8 [some (aA 12 (some 0)), some (aA 5 p1), some (aI p2), some (aI p3), some (aI a4t1)] []
  refine v_iload C (pc' := 10) dX2_giveFile_8 rfl rfl ?_
  refine v_if_lt C (tg := 71) (pc' := 13) dX2_giveFile_10 (by decide) rfl (fun q2 => ?_) (fun q2 => ?_)
  · rw [if_pos q2] at Lt1
    cases Lt1
    have z := kxt1 _ rfl
    subst z
    exact Kt1
  · rw [if_neg q2] at Lt1
    refine v_iload C (pc' := 15) dX2_giveFile_13 rfl rfl ?_
    refine v_aload_n C (pc' := 16) dX2_giveFile_15 rfl rfl rfl ?_
    obtain ⟨x3, hx3, Lt1⟩ := bind_some Lt1
    obtain ⟨hx3, bx3⟩ := nd_some hx3
    refine V.st (st' := [aA 5 (some x3), aI a4t1]) (by rw [hx3]) ?_
    refine v_getI C (pc' := 19) fl_X2_44 rfl (Or.inl rfl) (lvq_nd bx3) dX2_giveFile_16 rfl ?_
    refine v_icmp_ge C (tg := 71) (pc' := 22) dX2_giveFile_19 (by decide) rfl (fun q4 => ?_) (fun q4 => ?_)
    · rw [if_pos q4] at Lt1
      cases Lt1
      have z := kxt1 _ rfl
      subst z
      exact Kt1
    · rw [if_neg q4] at Lt1
      refine v_iload C (pc' := 24) dX2_giveFile_22 rfl rfl ?_
      refine v_aload_n C (pc' := 25) dX2_giveFile_24 rfl rfl rfl ?_
      refine V.st (st' := [aA 5 (some x3), aI a4t1]) (by rw [hx3]) ?_
      refine v_getF C (pc' := 28) rfl fl_X2_49 rfl rfl (t2 := 6) rfl (j := x3) rfl (unp_nd bx3) dX2_giveFile_25 rfl ?_
      refine v_alen C (pc' := 29) (t := 6) rfl (by decide) (lvq_nc bx3) (v := (32 : Int32)) (by decide) dX2_giveFile_28 rfl ?_
      refine v_icmp_ge C (tg := 71) (pc' := 32) dX2_giveFile_29 (by decide) rfl (fun q5 => ?_) (fun q5 => ?_)
      · rw [if_pos q5] at Lt1
        cases Lt1
        have z := kxt1 _ rfl
        subst z
        exact Kt1
      · rw [if_neg q5] at Lt1
        refine v_iload_n C (pc' := 33) dX2_giveFile_32 rfl rfl rfl ?_
        obtain ⟨t7, At7, Lt1⟩ := bind_some Lt1
        have Kt7 : V true G p l e { frames := 1, cells := 0, slots := 0, locals := 21 } s m args below meth c 5 (MQ below (QcA true G none h') args s 0 0 (A_ G)) t7 0 0 54 [some (aA 12 (some 0)), some (aA 5 p1), some (aI p2), some (aI p3), some (aI a4t1)] [] := by
          refine v_aload_n C (pc' := 55) dX2_giveFile_54 rfl rfl rfl ?_
          refine v_aload_n C (pc' := 56) dX2_giveFile_55 rfl rfl rfl ?_
          refine V.st (st' := [aA 5 (some x3), aA 12 (some 0)]) (by rw [hx3]) ?_
          refine v_getF C (pc' := 59) rfl fl_X2_49 rfl rfl (t2 := 6) rfl (j := x3) rfl (unp_nd bx3) dX2_giveFile_56 rfl ?_
          refine v_iload C (pc' := 61) dX2_giveFile_59 rfl rfl ?_
          obtain ⟨g11, Lt1⟩ := guardB_some Lt1
          refine v_iald C (pc' := 62) (t := 6) rfl (lvq_nc bx3) g11 dX2_giveFile_61 rfl ?_
          obtain ⟨y12, hy12, Lt1⟩ := bind_some Lt1
          refine v_callV C (pc' := 65) (rest := []) (c_cargo_add l (gI t7 (6, x3) a4t1.toNatClampNeg) t7 _ hy12) mv_X2_52 rfl rfl lv0_12 dX2_giveFile_62 rfl rfl rfl ⟨Nat.le_of_ble_eq_true rfl, Nat.le_of_ble_eq_true rfl⟩ (Nat.le_of_ble_eq_true rfl) ⟨Nat.le_of_ble_eq_true rfl, Nat.le_of_ble_eq_true rfl⟩ ?_
          refine V.st (st' := []) rfl ?_
          refine v_iinc4 C (pc' := 68) dX2_giveFile_65 (v := (a4t1 + (1 : Int32))) (by rw [show Int32.ofInt 1 = (1 : Int32) by decide]) (by decide) rfl rfl ?_
          refine v_goto C (pc' := 8) dX2_giveFile_68 (by decide) ?_
          cases Lt1
          exact kst1 _ rfl
        refine v_if_eq C (tg := 54) (pc' := 36) dX2_giveFile_33 (by decide) rfl (fun q6 => ?_) (fun q6 => ?_)
        · rw [if_pos q6] at At7
          cases At7
          exact Kt7
        · rw [if_neg q6] at At7
          refine v_aload_n C (pc' := 37) dX2_giveFile_36 rfl rfl rfl ?_
          refine V.st (st' := [aA 5 (some x3)]) (by rw [hx3]) ?_
          refine v_getF C (pc' := 40) rfl fl_X2_49 rfl rfl (t2 := 6) rfl (j := x3) rfl (unp_nd bx3) dX2_giveFile_37 rfl ?_
          refine v_iload C (pc' := 42) dX2_giveFile_40 rfl rfl ?_
          obtain ⟨g8, At7⟩ := guardB_some At7
          refine v_iald C (pc' := 43) (t := 6) rfl (lvq_nc bx3) g8 dX2_giveFile_42 rfl ?_
          refine v_bipush C (pc' := 45) dX2_giveFile_43 (v := (10 : Int32)) (by decide) rfl ?_
          refine v_icmp_ne C (tg := 54) (pc' := 48) dX2_giveFile_45 (by decide) rfl (fun q9 => ?_) (fun q9 => ?_)
          · rw [if_neg q9] at At7
            cases At7
            exact Kt7
          · rw [if_pos q9] at At7
            refine v_aload_n C (pc' := 49) dX2_giveFile_48 rfl rfl rfl ?_
            refine v_bipush C (pc' := 51) dX2_giveFile_49 (v := (13 : Int32)) (by decide) rfl ?_
            obtain ⟨y10, hy10, At7⟩ := bind_some At7
            refine v_callV C (pc' := 54) (rest := []) (c_cargo_add l (13 : Int32) ht1 _ hy10) mv_X2_52 rfl rfl lv0_12 dX2_giveFile_51 rfl rfl rfl ⟨Nat.le_of_ble_eq_true rfl, Nat.le_of_ble_eq_true rfl⟩ (Nat.le_of_ble_eq_true rfl) ⟨Nat.le_of_ble_eq_true rfl, Nat.le_of_ble_eq_true rfl⟩ ?_
            refine V.st (st' := []) rfl ?_
            cases At7
            exact Kt7

def r_retrieve  (h : Hp) : Option (Int32 × Hp) :=
  if (gR h (8, 0) 4) = none then
    some ((550 : Int32), h)
  else
    (nd 24 (gR h (8, 0) 4)).bind fun x2 =>
    if (gI h (5, x2) 3) = 0 then
      if (gI h (14, 0) 0) ≤ (gI h (5, x2) 1) then
        (r_dataConnects h).bind fun y5 =>
        if y5.1 = 0 then
          some ((425 : Int32), y5.2)
        else
          (if (gI y5.2 (0, 0) 12) = 0 then
            some (1 : Int32)
          else
            some (0 : Int32)).bind fun t8 =>
          (cargo_giveFile (gR h (8, 0) 4) (gI y5.2 (14, 0) 0) t8 y5.2).bind fun y9 =>
          some ((150 : Int32), y9)
      else
        some ((550 : Int32), h)
    else
      some ((550 : Int32), h)
set_option maxHeartbeats 2000000 in
set_option maxRecDepth 20000 in
theorem c_r_retrieve (l : Launch)  (h : Hp) (r : Int32) (h' : Hp)  (E : r_retrieve  h = some (r, h')) : Ctr l yX12_retrieve cX12_retrieve 2 (some .int) 2 45 0 0 true [aA 0 (some 0)] h (some (aI r)) h' := by
  rw [r_retrieve] at E
  refine Ctr.of (ls0 := [some (aA 0 (some 0)), none]) (by decide +kernel) (Nat.le_of_ble_eq_true rfl) rfl ?_
  intro G p e s m args below meth c C hr hlk hnm
  refine v_aload_n C (pc' := 1) dX12_retrieve_0 rfl rfl rfl ?_
  refine v_getF C (pc' := 4) rfl fl_X12_33 rfl rfl (t2 := 8) rfl (j := 0) rfl u0_0 dX12_retrieve_1 rfl ?_
  refine v_getR C (pc' := 7) fl_X12_294 rfl rfl (t2 := 5) rfl lv0_8 dX12_retrieve_4 rfl ?_
  refine v_astore1 C (pc' := 8) dX12_retrieve_7 (by decide) rfl rfl ?_
  refine v_aload_n C (pc' := 9) dX12_retrieve_8 rfl rfl rfl ?_
  refine v_ifnull C (tg := 33) (pc' := 12) dX12_retrieve_9 (by decide) rfl (fun q1 => ?_) (fun q1 => ?_)
  · rw [if_pos q1] at E
    refine v_sipush C (pc' := 36) dX12_retrieve_33 (v := (550 : Int32)) (by decide) rfl ?_
    cases E
    exact v_reti C hr hlk dX12_retrieve_36
  · rw [if_neg q1] at E
    refine v_aload_n C (pc' := 13) dX12_retrieve_12 rfl rfl rfl ?_
    obtain ⟨x2, hx2, E⟩ := bind_some E
    obtain ⟨hx2, bx2⟩ := nd_some hx2
    refine V.st (st' := [aA 5 (some x2)]) (by rw [hx2]) ?_
    refine v_getI C (pc' := 16) fl_X12_330 rfl (Or.inr rfl) (lvq_nd bx2) dX12_retrieve_13 rfl ?_
    refine v_if_ne C (tg := 33) (pc' := 19) dX12_retrieve_16 (by decide) rfl (fun q3 => ?_) (fun q3 => ?_)
    · rw [if_neg q3] at E
      refine v_sipush C (pc' := 36) dX12_retrieve_33 (v := (550 : Int32)) (by decide) rfl ?_
      cases E
      exact v_reti C hr hlk dX12_retrieve_36
    · rw [if_pos q3] at E
      refine v_aload_n C (pc' := 20) dX12_retrieve_19 rfl rfl rfl ?_
      refine v_getF C (pc' := 23) rfl fl_X12_54 rfl rfl (t2 := 14) rfl (j := 0) rfl u0_0 dX12_retrieve_20 rfl ?_
      refine v_getI C (pc' := 26) fl_X12_378 rfl (Or.inl rfl) (lvq_me (by decide)) dX12_retrieve_23 rfl ?_
      refine v_aload_n C (pc' := 27) dX12_retrieve_26 rfl rfl rfl ?_
      refine V.st (st' := [aA 5 (some x2), aI (gI h (14, 0) 0)]) (by rw [hx2]) ?_
      refine v_getI C (pc' := 30) fl_X12_348 rfl (Or.inl rfl) (lvq_nd bx2) dX12_retrieve_27 rfl ?_
      refine v_icmp_le C (tg := 37) (pc' := 33) dX12_retrieve_30 (by decide) rfl (fun q4 => ?_) (fun q4 => ?_)
      · rw [if_pos q4] at E
        refine v_aload_n C (pc' := 38) dX12_retrieve_37 rfl rfl rfl ?_
        obtain ⟨y5, hy5, E⟩ := bind_some E
        refine v_callV C (pc' := 41) (rest := []) (c_r_dataConnects l h _ _ hy5) mv_X12_380 rfl rfl lv0_0 dX12_retrieve_38 rfl rfl rfl ⟨Nat.le_of_ble_eq_true rfl, Nat.le_of_ble_eq_true rfl⟩ (Nat.le_of_ble_eq_true rfl) ⟨Nat.le_of_ble_eq_true rfl, Nat.le_of_ble_eq_true rfl⟩ ?_
        refine V.st (st' := [aI y5.1]) rfl ?_
        refine v_if_ne C (tg := 48) (pc' := 44) dX12_retrieve_41 (by decide) rfl (fun q6 => ?_) (fun q6 => ?_)
        · rw [if_neg q6] at E
          refine v_aload_n C (pc' := 49) dX12_retrieve_48 rfl rfl rfl ?_
          refine v_getF C (pc' := 52) rfl fl_X12_47 rfl rfl (t2 := 12) rfl (j := 0) rfl u0_0 dX12_retrieve_49 rfl ?_
          refine v_aload_n C (pc' := 53) dX12_retrieve_52 rfl rfl rfl ?_
          refine v_aload_n C (pc' := 54) dX12_retrieve_53 rfl rfl rfl ?_
          refine v_getF C (pc' := 57) rfl fl_X12_54 rfl rfl (t2 := 14) rfl (j := 0) rfl u0_0 dX12_retrieve_54 rfl ?_
          refine v_getI C (pc' := 60) fl_X12_378 rfl (Or.inl rfl) (lvq_me (by decide)) dX12_retrieve_57 rfl ?_
          refine v_aload_n C (pc' := 61) dX12_retrieve_60 rfl rfl rfl ?_
          refine v_getI C (pc' := 64) fl_X12_76 rfl (Or.inr rfl) lv0_0 dX12_retrieve_61 rfl ?_
          obtain ⟨t8, At8, E⟩ := bind_some E
          have Kt8 : V true G p l e { frames := 2, cells := 0, slots := 0, locals := 45 } s m args below meth c 2 (MQ below (QcA true G (some (aI r)) h') args s 0 0 (A_ G)) y5.2 0 0 72 [some (aA 0 (some 0)), some (aA 5 (gR h (8, 0) 4))] [aI t8, aI (gI y5.2 (14, 0) 0), aA 5 (gR h (8, 0) 4), aA 12 (some 0)] := by
            obtain ⟨y9, hy9, E⟩ := bind_some E
            refine v_callV C (pc' := 75) (rest := []) (c_cargo_giveFile l (gR h (8, 0) 4) (gI y5.2 (14, 0) 0) t8 y5.2 _ hy9) mv_X12_383 rfl rfl lv0_12 dX12_retrieve_72 rfl rfl rfl ⟨Nat.le_of_ble_eq_true rfl, Nat.le_of_ble_eq_true rfl⟩ (Nat.le_of_ble_eq_true rfl) ⟨Nat.le_of_ble_eq_true rfl, Nat.le_of_ble_eq_true rfl⟩ ?_
            refine V.st (st' := []) rfl ?_
            refine v_sipush C (pc' := 78) dX12_retrieve_75 (v := (150 : Int32)) (by decide) rfl ?_
            cases E
            exact v_reti C hr hlk dX12_retrieve_78
          refine v_if_ne C (tg := 71) (pc' := 67) dX12_retrieve_64 (by decide) rfl (fun q7 => ?_) (fun q7 => ?_)
          · rw [if_neg q7] at At8
            refine v_iconst C (pc' := 72) dX12_retrieve_71 (v := (0 : Int32)) (by decide) rfl ?_
            cases At8
            exact Kt8
          · rw [if_pos q7] at At8
            refine v_iconst C (pc' := 68) dX12_retrieve_67 (v := (1 : Int32)) (by decide) rfl ?_
            refine v_goto C (pc' := 72) dX12_retrieve_68 (by decide) ?_
            cases At8
            exact Kt8
        · rw [if_pos q6] at E
          refine v_sipush C (pc' := 47) dX12_retrieve_44 (v := (425 : Int32)) (by decide) rfl ?_
          cases E
          exact v_reti C hr hlk dX12_retrieve_47
      · rw [if_neg q4] at E
        refine v_sipush C (pc' := 36) dX12_retrieve_33 (v := (550 : Int32)) (by decide) rfl ?_
        cases E
        exact v_reti C hr hlk dX12_retrieve_36

def cargo_startTaking (p1 : Option Nat) (p2 : Option Nat) (p3 : Int64) (p5 : Int32) (h : Hp) : Option Hp :=
  guardZ p5 <|
  some (sI (sL (sR (sR (sI h (12, 0) 1 (2 : Int32)) (12, 0) 4 p1) (12, 0) 5 p2) (12, 0) 6 p3) (12, 0) 7 p5)
set_option maxHeartbeats 2000000 in
set_option maxRecDepth 20000 in
theorem c_cargo_startTaking (l : Launch) (p1 : Option Nat) (p2 : Option Nat) (p3 : Int64) (p5 : Int32) (h : Hp) (h' : Hp)  (E : cargo_startTaking p1 p2 p3 p5 h = some h') : Ctr l yX2_startTaking cX2_startTaking 6 none 0 0 0 0 true [aA 12 (some 0), aA 5 p1, aA 5 p2, aL p3, aI p5] h none h' := by
  rw [cargo_startTaking] at E
  refine Ctr.of (ls0 := [some (aA 12 (some 0)), some (aA 5 p1), some (aA 5 p2), some (aL p3), none, some (aI p5)]) (by decide +kernel) (Nat.le_of_ble_eq_true rfl) rfl ?_
  intro G p e s m args below meth c C hr hlk hnm
  refine v_aload_n C (pc' := 1) dX2_startTaking_0 rfl rfl rfl ?_
  refine v_iconst C (pc' := 2) dX2_startTaking_1 (v := (2 : Int32)) (by decide) rfl ?_
  refine v_putI C (pc' := 5) fp_X2_19 rfl rfl lv0_12 dX2_startTaking_2 rfl ?_
  refine v_aload_n C (pc' := 6) dX2_startTaking_5 rfl rfl rfl ?_
  refine v_aload_n C (pc' := 7) dX2_startTaking_6 rfl rfl rfl ?_
  refine v_putR C (pc' := 10) fp_X2_29 rfl rfl lv0_12 dX2_startTaking_7 rfl (t2 := 5) rfl (fun _ => ⟨rfl, by decide⟩) ?_
  refine v_aload_n C (pc' := 11) dX2_startTaking_10 rfl rfl rfl ?_
  refine v_aload_n C (pc' := 12) dX2_startTaking_11 rfl rfl rfl ?_
  refine v_putR C (pc' := 15) fp_X2_33 rfl rfl lv0_12 dX2_startTaking_12 rfl (t2 := 5) rfl (fun _ => ⟨rfl, by decide⟩) ?_
  refine v_aload_n C (pc' := 16) dX2_startTaking_15 rfl rfl rfl ?_
  refine v_lload_n C (pc' := 17) dX2_startTaking_16 rfl rfl rfl ?_
  refine v_putL C (pc' := 20) fp_X2_36 rfl rfl lv0_12 dX2_startTaking_17 rfl ?_
  refine v_aload_n C (pc' := 21) dX2_startTaking_20 rfl rfl rfl ?_
  refine v_iload C (pc' := 23) dX2_startTaking_21 rfl rfl ?_
  obtain ⟨z1, E⟩ := guardZ_some E
  refine v_putZ C (pc' := 26) fp_X2_40 rfl rfl lv0_12 dX2_startTaking_23 rfl z1 ?_
  cases E
  exact v_retv C hr hlk dX2_startTaking_26

def r_takeFile_j54 (v1 : Int32) (v2 : Option Nat) (h : Hp) : Option (Int32 × Hp) :=
  (r_dataConnects h).bind fun y8 =>
  if y8.1 = 0 then
    some ((425 : Int32), y8.2)
  else
    (cargo_startTaking v2 (gR y8.2 (8, 0) 5) (gL y8.2 (8, 0) 6) v1 y8.2).bind fun y10 =>
    some ((150 : Int32), y10)
def r_takeFile_j36 (v1 : Int32) (v2 : Option Nat) (h : Hp) : Option (Int32 × Hp) :=
  if v2 = none then
    (tree_isFull h).bind fun y6 =>
    if y6 = 0 then
      r_takeFile_j54 v1 v2 h
    else
      some ((452 : Int32), h)
  else
    r_takeFile_j54 v1 v2 h
def r_takeFile (p1 : Int32) (h : Hp) : Option (Int32 × Hp) :=
  if (gR h (8, 0) 4) = none then
    if (gR h (8, 0) 5) = none then
      some ((553 : Int32), h)
    else
      r_takeFile_j36 p1 (gR h (8, 0) 4) h
  else
    (nd 24 (gR h (8, 0) 4)).bind fun x2 =>
    if (gI h (5, x2) 3) = 0 then
      r_takeFile_j36 p1 (gR h (8, 0) 4) h
    else
      some ((553 : Int32), h)
set_option maxHeartbeats 2000000 in
set_option maxRecDepth 20000 in
theorem c_r_takeFile (l : Launch) (p1 : Int32) (h : Hp) (r : Int32) (h' : Hp)  (E : r_takeFile p1 h = some (r, h')) : Ctr l yX12_takeFile cX12_takeFile 3 (some .int) 2 45 0 0 true [aA 0 (some 0), aI p1] h (some (aI r)) h' := by
  rw [r_takeFile] at E
  refine Ctr.of (ls0 := [some (aA 0 (some 0)), some (aI p1), none]) (by decide +kernel) (Nat.le_of_ble_eq_true rfl) rfl ?_
  intro G p e s m args below meth c C hr hlk hnm
  refine v_aload_n C (pc' := 1) dX12_takeFile_0 rfl rfl rfl ?_
  refine v_getF C (pc' := 4) rfl fl_X12_33 rfl rfl (t2 := 8) rfl (j := 0) rfl u0_0 dX12_takeFile_1 rfl ?_
  refine v_getR C (pc' := 7) fl_X12_294 rfl rfl (t2 := 5) rfl lv0_8 dX12_takeFile_4 rfl ?_
  refine v_astore2 C (pc' := 8) dX12_takeFile_7 (by decide) rfl rfl ?_
  refine v_aload_n C (pc' := 9) dX12_takeFile_8 rfl rfl rfl ?_
  have J36 : r_takeFile_j36 p1 (gR h (8, 0) 4) h = some (r, h') → V true G p l e { frames := 2, cells := 0, slots := 0, locals := 45 } s m args below meth c 3 (MQ below (QcA true G (some (aI r)) h') args s 0 0 (A_ G)) h 0 0 36 [some (aA 0 (some 0)), some (aI p1), some (aA 5 (gR h (8, 0) 4))] [] := by
    intro  Ej36
    rw [r_takeFile_j36] at Ej36
    refine v_aload_n C (pc' := 37) dX12_takeFile_36 rfl rfl rfl ?_
    have J54 : r_takeFile_j54 p1 (gR h (8, 0) 4) h = some (r, h') → V true G p l e { frames := 2, cells := 0, slots := 0, locals := 45 } s m args below meth c 3 (MQ below (QcA true G (some (aI r)) h') args s 0 0 (A_ G)) h 0 0 54 [some (aA 0 (some 0)), some (aI p1), some (aA 5 (gR h (8, 0) 4))] [] := by
      intro  Ej54
      rw [r_takeFile_j54] at Ej54
      refine v_aload_n C (pc' := 55) dX12_takeFile_54 rfl rfl rfl ?_
      obtain ⟨y8, hy8, Ej54⟩ := bind_some Ej54
      refine v_callV C (pc' := 58) (rest := []) (c_r_dataConnects l h _ _ hy8) mv_X12_380 rfl rfl lv0_0 dX12_takeFile_55 rfl rfl rfl ⟨Nat.le_of_ble_eq_true rfl, Nat.le_of_ble_eq_true rfl⟩ (Nat.le_of_ble_eq_true rfl) ⟨Nat.le_of_ble_eq_true rfl, Nat.le_of_ble_eq_true rfl⟩ ?_
      refine V.st (st' := [aI y8.1]) rfl ?_
      refine v_if_ne C (tg := 65) (pc' := 61) dX12_takeFile_58 (by decide) rfl (fun q9 => ?_) (fun q9 => ?_)
      · rw [if_neg q9] at Ej54
        refine v_aload_n C (pc' := 66) dX12_takeFile_65 rfl rfl rfl ?_
        refine v_getF C (pc' := 69) rfl fl_X12_47 rfl rfl (t2 := 12) rfl (j := 0) rfl u0_0 dX12_takeFile_66 rfl ?_
        refine v_aload_n C (pc' := 70) dX12_takeFile_69 rfl rfl rfl ?_
        refine v_aload_n C (pc' := 71) dX12_takeFile_70 rfl rfl rfl ?_
        refine v_getF C (pc' := 74) rfl fl_X12_33 rfl rfl (t2 := 8) rfl (j := 0) rfl u0_0 dX12_takeFile_71 rfl ?_
        refine v_getR C (pc' := 77) fl_X12_335 rfl rfl (t2 := 5) rfl lv0_8 dX12_takeFile_74 rfl ?_
        refine v_aload_n C (pc' := 78) dX12_takeFile_77 rfl rfl rfl ?_
        refine v_getF C (pc' := 81) rfl fl_X12_33 rfl rfl (t2 := 8) rfl (j := 0) rfl u0_0 dX12_takeFile_78 rfl ?_
        refine v_getL C (pc' := 84) fl_X12_338 rfl rfl lv0_8 dX12_takeFile_81 rfl ?_
        refine v_iload_n C (pc' := 85) dX12_takeFile_84 rfl rfl rfl ?_
        obtain ⟨y10, hy10, Ej54⟩ := bind_some Ej54
        refine v_callV C (pc' := 88) (rest := []) (c_cargo_startTaking l (gR h (8, 0) 4) (gR y8.2 (8, 0) 5) (gL y8.2 (8, 0) 6) p1 y8.2 _ hy10) mv_X12_394 rfl rfl lv0_12 dX12_takeFile_85 rfl rfl rfl ⟨Nat.le_of_ble_eq_true rfl, Nat.le_of_ble_eq_true rfl⟩ (Nat.le_of_ble_eq_true rfl) ⟨Nat.le_of_ble_eq_true rfl, Nat.le_of_ble_eq_true rfl⟩ ?_
        refine V.st (st' := []) rfl ?_
        refine v_sipush C (pc' := 91) dX12_takeFile_88 (v := (150 : Int32)) (by decide) rfl ?_
        cases Ej54
        exact v_reti C hr hlk dX12_takeFile_91
      · rw [if_pos q9] at Ej54
        refine v_sipush C (pc' := 64) dX12_takeFile_61 (v := (425 : Int32)) (by decide) rfl ?_
        cases Ej54
        exact v_reti C hr hlk dX12_takeFile_64
    refine v_ifnonnull C (tg := 54) (pc' := 40) dX12_takeFile_37 (by decide) rfl (fun q5 => ?_) (fun q5 => ?_)
    · rw [if_neg q5] at Ej36
      exact J54  Ej36
    · rw [if_pos q5] at Ej36
      refine v_aload_n C (pc' := 41) dX12_takeFile_40 rfl rfl rfl ?_
      refine v_getF C (pc' := 44) rfl fl_X12_19 rfl rfl (t2 := 3) rfl (j := 0) rfl u0_0 dX12_takeFile_41 rfl ?_
      obtain ⟨y6, hy6, Ej36⟩ := bind_some Ej36
      refine v_callV C (pc' := 47) (rest := []) (c_tree_isFull l h _ hy6) mv_X12_391 rfl rfl lv0_3 dX12_takeFile_44 rfl rfl rfl ⟨Nat.le_of_ble_eq_true rfl, Nat.le_of_ble_eq_true rfl⟩ (Nat.le_of_ble_eq_true rfl) ⟨Nat.le_of_ble_eq_true rfl, Nat.le_of_ble_eq_true rfl⟩ ?_
      refine V.st (st' := [aI y6]) rfl ?_
      refine v_if_eq C (tg := 54) (pc' := 50) dX12_takeFile_47 (by decide) rfl (fun q7 => ?_) (fun q7 => ?_)
      · rw [if_pos q7] at Ej36
        exact J54  Ej36
      · rw [if_neg q7] at Ej36
        refine v_sipush C (pc' := 53) dX12_takeFile_50 (v := (452 : Int32)) (by decide) rfl ?_
        cases Ej36
        exact v_reti C hr hlk dX12_takeFile_53
  refine v_ifnonnull C (tg := 25) (pc' := 12) dX12_takeFile_9 (by decide) rfl (fun q1 => ?_) (fun q1 => ?_)
  · rw [if_neg q1] at E
    refine v_aload_n C (pc' := 26) dX12_takeFile_25 rfl rfl rfl ?_
    obtain ⟨x2, hx2, E⟩ := bind_some E
    obtain ⟨hx2, bx2⟩ := nd_some hx2
    refine V.st (st' := [aA 5 (some x2)]) (by rw [hx2]) ?_
    refine v_getI C (pc' := 29) fl_X12_330 rfl (Or.inr rfl) (lvq_nd bx2) dX12_takeFile_26 rfl ?_
    refine v_if_eq C (tg := 36) (pc' := 32) dX12_takeFile_29 (by decide) rfl (fun q3 => ?_) (fun q3 => ?_)
    · rw [if_pos q3] at E
      exact J36  E
    · rw [if_neg q3] at E
      refine v_sipush C (pc' := 35) dX12_takeFile_32 (v := (553 : Int32)) (by decide) rfl ?_
      cases E
      exact v_reti C hr hlk dX12_takeFile_35
  · rw [if_pos q1] at E
    refine v_aload_n C (pc' := 13) dX12_takeFile_12 rfl rfl rfl ?_
    refine v_getF C (pc' := 16) rfl fl_X12_33 rfl rfl (t2 := 8) rfl (j := 0) rfl u0_0 dX12_takeFile_13 rfl ?_
    refine v_getR C (pc' := 19) fl_X12_335 rfl rfl (t2 := 5) rfl lv0_8 dX12_takeFile_16 rfl ?_
    refine v_ifnonnull C (tg := 36) (pc' := 22) dX12_takeFile_19 (by decide) rfl (fun q4 => ?_) (fun q4 => ?_)
    · rw [if_neg q4] at E
      exact J36  E
    · rw [if_pos q4] at E
      refine v_goto C (pc' := 32) dX12_takeFile_22 (by decide) ?_
      refine v_sipush C (pc' := 35) dX12_takeFile_32 (v := (553 : Int32)) (by decide) rfl ?_
      cases E
      exact v_reti C hr hlk dX12_takeFile_35

def cargo_giveNames_l31 (v2 : Option Nat) (v3 : Int64) (v5 : Int32) : Int32 × Hp → Option ((Int32 × Hp) ⊕ (Int32 × Hp))
  | (a6, h) =>
    if (6 : Int32) ≤ a6 then
      some (.inl (a6, h))
    else
      (name_signOf v3 a6 h).bind fun y5 =>
      if y5 = 0 then
        some (.inl (a6, h))
      else
        (name_signOf v3 a6 h).bind fun y7 =>
        (cargo_add y7 h).bind fun y8 =>
        some (.inr ((a6 + (1 : Int32)), y8))
def cargo_giveNames_l15 (v2 : Option Nat) : Int64 × Int32 × Hp → Option ((Int64 × Int32 × Hp) ⊕ (Int64 × Int32 × Hp))
  | (a3, a5, h) =>
    if (24 : Int32) ≤ a5 then
      some (.inl (a3, a5, h))
    else
      if a3 = (0 : Int64) then
        some (.inl (a3, a5, h))
      else
        (iter (cargo_giveNames_l31 v2 a3 a5) FU ((0 : Int32), h)).bind fun t9 =>
        (cargo_add (13 : Int32) t9.2).bind fun y10 =>
        (cargo_add (10 : Int32) y10).bind fun y11 =>
        (tree_nextName v2 a3 y11).bind fun y12 =>
        some (.inr (y12, (a5 + (1 : Int32)), y11))
def cargo_giveNames (p2 : Option Nat) (h : Hp) : Option Hp :=
  (tree_nextName p2 (0 : Int64) (sI h (12, 0) 1 (1 : Int32))).bind fun y1 =>
  (iter (cargo_giveNames_l15 p2) FU (y1, (0 : Int32), (sI h (12, 0) 1 (1 : Int32)))).bind fun t13 =>
  some t13.2.2
set_option maxHeartbeats 2000000 in
set_option maxRecDepth 20000 in
theorem c_cargo_giveNames (l : Launch) (p2 : Option Nat) (h : Hp) (h' : Hp)  (E : cargo_giveNames p2 h = some h') : Ctr l yX2_giveNames cX2_giveNames 7 none 1 29 0 0 true [aA 12 (some 0), aA 3 (some 0), aA 5 p2] h none h' := by
  rw [cargo_giveNames] at E
  refine Ctr.of (ls0 := [some (aA 12 (some 0)), some (aA 3 (some 0)), some (aA 5 p2), none, none, none, none]) (by decide +kernel) (Nat.le_of_ble_eq_true rfl) rfl ?_
  intro G p e s m args below meth c C hr hlk hnm
  refine v_aload_n C (pc' := 1) dX2_giveNames_0 rfl rfl rfl ?_
  refine v_iconst C (pc' := 2) dX2_giveNames_1 (v := (1 : Int32)) (by decide) rfl ?_
  refine v_putI C (pc' := 5) fp_X2_19 rfl rfl lv0_12 dX2_giveNames_2 rfl ?_
  refine v_aload_n C (pc' := 6) dX2_giveNames_5 rfl rfl rfl ?_
  refine v_aload_n C (pc' := 7) dX2_giveNames_6 rfl rfl rfl ?_
  refine v_lconst C (pc' := 8) dX2_giveNames_7 (v := (0 : Int64)) (by decide) rfl ?_
  obtain ⟨y1, hy1, E⟩ := bind_some E
  refine v_callV C (pc' := 11) (rest := []) (c_tree_nextName l p2 (0 : Int64) (sI h (12, 0) 1 (1 : Int32)) _ hy1) mv_X2_56 rfl rfl lv0_3 dX2_giveNames_8 rfl rfl rfl ⟨Nat.le_of_ble_eq_true rfl, Nat.le_of_ble_eq_true rfl⟩ (Nat.le_of_ble_eq_true rfl) ⟨Nat.le_of_ble_eq_true rfl, Nat.le_of_ble_eq_true rfl⟩ ?_
  refine V.st (st' := [aL y1]) rfl ?_
  refine v_lstore3 C (pc' := 12) dX2_giveNames_11 (by decide) rfl rfl ?_
  refine v_iconst C (pc' := 13) dX2_giveNames_12 (v := (0 : Int32)) (by decide) rfl ?_
  refine v_istore5 C (pc' := 15) dX2_giveNames_13 (by decide) rfl rfl ?_
  obtain ⟨t2, It2, E⟩ := bind_some E
  have Kt2 : V true G p l e { frames := 1, cells := 0, slots := 0, locals := 29 } s m args below meth c 7 (MQ below (QcA true G none h') args s 0 0 (A_ G)) t2.2.2 0 0 88 [some (aA 12 (some 0)), some (aA 3 (some 0)), some (aA 5 p2), some (aL t2.1), none, some (aI t2.2.1), none] [] := by
    cases E
    exact v_retv C hr hlk dX2_giveNames_88
  refine iter_V (P := fun st2 : Int64 × Int32 × Hp => V true G p l e { frames := 1, cells := 0, slots := 0, locals := 29 } s m args below meth c 7 (MQ below (QcA true G none h') args s 0 0 (A_ G)) st2.2.2 0 0 15 [some (aA 12 (some 0)), some (aA 3 (some 0)), some (aA 5 p2), some (aL st2.1), none, some (aI st2.2.1), none] []) ?_ _ _ It2
  rintro ⟨a3t2, a5t2, ht2⟩ ot2 Lt2 kxt2 kst2
  rw [cargo_giveNames_l15] at Lt2
  show V true G p l e { frames := 1, cells := 0, slots := 0, locals := 29 } s m args below meth c 7 (MQ below (QcA true G none h') args s 0 0 (A_ G)) ht2 0 0 15 [some (aA 12 (some 0)), some (aA 3 (some 0)), some (aA 5 p2), some (aL a3t2), none, some (aI a5t2), none] []
  refine v_iload C (pc' := 17) dX2_giveNames_15 rfl rfl ?_
  refine v_bipush C (pc' := 19) dX2_giveNames_17 (v := (24 : Int32)) (by decide) rfl ?_
  refine v_icmp_ge C (tg := 88) (pc' := 22) dX2_giveNames_19 (by decide) rfl (fun q3 => ?_) (fun q3 => ?_)
  · rw [if_pos q3] at Lt2
    cases Lt2
    have z := kxt2 _ rfl
    subst z
    exact Kt2
  · rw [if_neg q3] at Lt2
    refine v_lload_n C (pc' := 23) dX2_giveNames_22 rfl rfl rfl ?_
    refine v_lconst C (pc' := 24) dX2_giveNames_23 (v := (0 : Int64)) (by decide) rfl ?_
    refine v_lcmp C (pc' := 25) dX2_giveNames_24 rfl ?_
    refine v_if_eq C (tg := 88) (pc' := 28) dX2_giveNames_25 (by decide) rfl (fun q4 => ?_) (fun q4 => ?_)
    · rw [lgc_eq] at q4
      rw [if_pos q4] at Lt2
      cases Lt2
      have z := kxt2 _ rfl
      subst z
      exact Kt2
    · rw [lgc_eq] at q4
      rw [if_neg q4] at Lt2
      refine v_iconst C (pc' := 29) dX2_giveNames_28 (v := (0 : Int32)) (by decide) rfl ?_
      refine v_istore6 C (pc' := 31) dX2_giveNames_29 (by decide) rfl rfl ?_
      obtain ⟨t5, It5, Lt2⟩ := bind_some Lt2
      have Kt5 : V true G p l e { frames := 1, cells := 0, slots := 0, locals := 29 } s m args below meth c 7 (MQ below (QcA true G none h') args s 0 0 (A_ G)) t5.2 0 0 63 [some (aA 12 (some 0)), some (aA 3 (some 0)), some (aA 5 p2), some (aL a3t2), none, some (aI a5t2), some (aI t5.1)] [] := by
        refine v_aload_n C (pc' := 64) dX2_giveNames_63 rfl rfl rfl ?_
        refine v_bipush C (pc' := 66) dX2_giveNames_64 (v := (13 : Int32)) (by decide) rfl ?_
        obtain ⟨y6, hy6, Lt2⟩ := bind_some Lt2
        refine v_callV C (pc' := 69) (rest := []) (c_cargo_add l (13 : Int32) t5.2 _ hy6) mv_X2_52 rfl rfl lv0_12 dX2_giveNames_66 rfl rfl rfl ⟨Nat.le_of_ble_eq_true rfl, Nat.le_of_ble_eq_true rfl⟩ (Nat.le_of_ble_eq_true rfl) ⟨Nat.le_of_ble_eq_true rfl, Nat.le_of_ble_eq_true rfl⟩ ?_
        refine V.st (st' := []) rfl ?_
        refine v_aload_n C (pc' := 70) dX2_giveNames_69 rfl rfl rfl ?_
        refine v_bipush C (pc' := 72) dX2_giveNames_70 (v := (10 : Int32)) (by decide) rfl ?_
        obtain ⟨y7, hy7, Lt2⟩ := bind_some Lt2
        refine v_callV C (pc' := 75) (rest := []) (c_cargo_add l (10 : Int32) y6 _ hy7) mv_X2_52 rfl rfl lv0_12 dX2_giveNames_72 rfl rfl rfl ⟨Nat.le_of_ble_eq_true rfl, Nat.le_of_ble_eq_true rfl⟩ (Nat.le_of_ble_eq_true rfl) ⟨Nat.le_of_ble_eq_true rfl, Nat.le_of_ble_eq_true rfl⟩ ?_
        refine V.st (st' := []) rfl ?_
        refine v_aload_n C (pc' := 76) dX2_giveNames_75 rfl rfl rfl ?_
        refine v_aload_n C (pc' := 77) dX2_giveNames_76 rfl rfl rfl ?_
        refine v_lload_n C (pc' := 78) dX2_giveNames_77 rfl rfl rfl ?_
        obtain ⟨y8, hy8, Lt2⟩ := bind_some Lt2
        refine v_callV C (pc' := 81) (rest := []) (c_tree_nextName l p2 a3t2 y7 _ hy8) mv_X2_56 rfl rfl lv0_3 dX2_giveNames_78 rfl rfl rfl ⟨Nat.le_of_ble_eq_true rfl, Nat.le_of_ble_eq_true rfl⟩ (Nat.le_of_ble_eq_true rfl) ⟨Nat.le_of_ble_eq_true rfl, Nat.le_of_ble_eq_true rfl⟩ ?_
        refine V.st (st' := [aL y8]) rfl ?_
        refine v_lstore3 C (pc' := 82) dX2_giveNames_81 (by decide) rfl rfl ?_
        refine v_iinc5 C (pc' := 85) dX2_giveNames_82 (v := (a5t2 + (1 : Int32))) (by rw [show Int32.ofInt 1 = (1 : Int32) by decide]) (by decide) rfl rfl ?_
        refine v_goto C (pc' := 15) dX2_giveNames_85 (by decide) ?_
        cases Lt2
        exact V.ls (ms := [true, true, true, true, false, true, false]) rfl (kst2 _ rfl)
      refine iter_V (P := fun st5 : Int32 × Hp => V true G p l e { frames := 1, cells := 0, slots := 0, locals := 29 } s m args below meth c 7 (MQ below (QcA true G none h') args s 0 0 (A_ G)) st5.2 0 0 31 [some (aA 12 (some 0)), some (aA 3 (some 0)), some (aA 5 p2), some (aL a3t2), none, some (aI a5t2), some (aI st5.1)] []) ?_ _ _ It5
      rintro ⟨a6t5, ht5⟩ ot5 Lt5 kxt5 kst5
      rw [cargo_giveNames_l31] at Lt5
      show V true G p l e { frames := 1, cells := 0, slots := 0, locals := 29 } s m args below meth c 7 (MQ below (QcA true G none h') args s 0 0 (A_ G)) ht5 0 0 31 [some (aA 12 (some 0)), some (aA 3 (some 0)), some (aA 5 p2), some (aL a3t2), none, some (aI a5t2), some (aI a6t5)] []
      refine v_iload C (pc' := 33) dX2_giveNames_31 rfl rfl ?_
      refine v_bipush C (pc' := 35) dX2_giveNames_33 (v := (6 : Int32)) (by decide) rfl ?_
      refine v_icmp_ge C (tg := 63) (pc' := 38) dX2_giveNames_35 (by decide) rfl (fun q9 => ?_) (fun q9 => ?_)
      · rw [if_pos q9] at Lt5
        cases Lt5
        have z := kxt5 _ rfl
        subst z
        exact Kt5
      · rw [if_neg q9] at Lt5
        refine v_lload_n C (pc' := 39) dX2_giveNames_38 rfl rfl rfl ?_
        refine v_iload C (pc' := 41) dX2_giveNames_39 rfl rfl ?_
        obtain ⟨y10, hy10, Lt5⟩ := bind_some Lt5
        refine v_callS C (pc' := 44) (rest := []) (c_name_signOf l a3t2 a6t5 ht5 _ hy10) ms_X2_60 dX2_giveNames_41 rfl rfl rfl ⟨Nat.le_of_ble_eq_true rfl, Nat.le_of_ble_eq_true rfl⟩ (Nat.le_of_ble_eq_true rfl) ⟨Nat.le_of_ble_eq_true rfl, Nat.le_of_ble_eq_true rfl⟩ ?_
        refine V.st (st' := [aI y10]) rfl ?_
        refine v_if_eq C (tg := 63) (pc' := 47) dX2_giveNames_44 (by decide) rfl (fun q11 => ?_) (fun q11 => ?_)
        · rw [if_pos q11] at Lt5
          cases Lt5
          have z := kxt5 _ rfl
          subst z
          exact Kt5
        · rw [if_neg q11] at Lt5
          refine v_aload_n C (pc' := 48) dX2_giveNames_47 rfl rfl rfl ?_
          refine v_lload_n C (pc' := 49) dX2_giveNames_48 rfl rfl rfl ?_
          refine v_iload C (pc' := 51) dX2_giveNames_49 rfl rfl ?_
          obtain ⟨y12, hy12, Lt5⟩ := bind_some Lt5
          refine v_callS C (pc' := 54) (rest := [aA 12 (some 0)]) (c_name_signOf l a3t2 a6t5 ht5 _ hy12) ms_X2_60 dX2_giveNames_51 rfl rfl rfl ⟨Nat.le_of_ble_eq_true rfl, Nat.le_of_ble_eq_true rfl⟩ (Nat.le_of_ble_eq_true rfl) ⟨Nat.le_of_ble_eq_true rfl, Nat.le_of_ble_eq_true rfl⟩ ?_
          refine V.st (st' := [aI y12, aA 12 (some 0)]) rfl ?_
          obtain ⟨y13, hy13, Lt5⟩ := bind_some Lt5
          refine v_callV C (pc' := 57) (rest := []) (c_cargo_add l y12 ht5 _ hy13) mv_X2_52 rfl rfl lv0_12 dX2_giveNames_54 rfl rfl rfl ⟨Nat.le_of_ble_eq_true rfl, Nat.le_of_ble_eq_true rfl⟩ (Nat.le_of_ble_eq_true rfl) ⟨Nat.le_of_ble_eq_true rfl, Nat.le_of_ble_eq_true rfl⟩ ?_
          refine V.st (st' := []) rfl ?_
          refine v_iinc6 C (pc' := 60) dX2_giveNames_57 (v := (a6t5 + (1 : Int32))) (by rw [show Int32.ofInt 1 = (1 : Int32) by decide]) (by decide) rfl rfl ?_
          refine v_goto C (pc' := 31) dX2_giveNames_60 (by decide) ?_
          cases Lt5
          exact kst5 _ rfl

def r_listNames  (h : Hp) : Option (Int32 × Hp) :=
  if (gR h (8, 0) 4) = none then
    some ((550 : Int32), h)
  else
    (nd 24 (gR h (8, 0) 4)).bind fun x2 =>
    if (gI h (5, x2) 3) = 0 then
      some ((550 : Int32), h)
    else
      (r_dataConnects h).bind fun y4 =>
      if y4.1 = 0 then
        some ((425 : Int32), y4.2)
      else
        (cargo_giveNames (gR h (8, 0) 4) y4.2).bind fun y6 =>
        some ((150 : Int32), y6)
set_option maxHeartbeats 2000000 in
set_option maxRecDepth 20000 in
theorem c_r_listNames (l : Launch)  (h : Hp) (r : Int32) (h' : Hp)  (E : r_listNames  h = some (r, h')) : Ctr l yX12_listNames cX12_listNames 2 (some .int) 2 55 0 0 true [aA 0 (some 0)] h (some (aI r)) h' := by
  rw [r_listNames] at E
  refine Ctr.of (ls0 := [some (aA 0 (some 0)), none]) (by decide +kernel) (Nat.le_of_ble_eq_true rfl) rfl ?_
  intro G p e s m args below meth c C hr hlk hnm
  refine v_aload_n C (pc' := 1) dX12_listNames_0 rfl rfl rfl ?_
  refine v_getF C (pc' := 4) rfl fl_X12_33 rfl rfl (t2 := 8) rfl (j := 0) rfl u0_0 dX12_listNames_1 rfl ?_
  refine v_getR C (pc' := 7) fl_X12_294 rfl rfl (t2 := 5) rfl lv0_8 dX12_listNames_4 rfl ?_
  refine v_astore1 C (pc' := 8) dX12_listNames_7 (by decide) rfl rfl ?_
  refine v_aload_n C (pc' := 9) dX12_listNames_8 rfl rfl rfl ?_
  refine v_ifnull C (tg := 19) (pc' := 12) dX12_listNames_9 (by decide) rfl (fun q1 => ?_) (fun q1 => ?_)
  · rw [if_pos q1] at E
    refine v_sipush C (pc' := 22) dX12_listNames_19 (v := (550 : Int32)) (by decide) rfl ?_
    cases E
    exact v_reti C hr hlk dX12_listNames_22
  · rw [if_neg q1] at E
    refine v_aload_n C (pc' := 13) dX12_listNames_12 rfl rfl rfl ?_
    obtain ⟨x2, hx2, E⟩ := bind_some E
    obtain ⟨hx2, bx2⟩ := nd_some hx2
    refine V.st (st' := [aA 5 (some x2)]) (by rw [hx2]) ?_
    refine v_getI C (pc' := 16) fl_X12_330 rfl (Or.inr rfl) (lvq_nd bx2) dX12_listNames_13 rfl ?_
    refine v_if_ne C (tg := 23) (pc' := 19) dX12_listNames_16 (by decide) rfl (fun q3 => ?_) (fun q3 => ?_)
    · rw [if_neg q3] at E
      refine v_aload_n C (pc' := 24) dX12_listNames_23 rfl rfl rfl ?_
      obtain ⟨y4, hy4, E⟩ := bind_some E
      refine v_callV C (pc' := 27) (rest := []) (c_r_dataConnects l h _ _ hy4) mv_X12_380 rfl rfl lv0_0 dX12_listNames_24 rfl rfl rfl ⟨Nat.le_of_ble_eq_true rfl, Nat.le_of_ble_eq_true rfl⟩ (Nat.le_of_ble_eq_true rfl) ⟨Nat.le_of_ble_eq_true rfl, Nat.le_of_ble_eq_true rfl⟩ ?_
      refine V.st (st' := [aI y4.1]) rfl ?_
      refine v_if_ne C (tg := 34) (pc' := 30) dX12_listNames_27 (by decide) rfl (fun q5 => ?_) (fun q5 => ?_)
      · rw [if_neg q5] at E
        refine v_aload_n C (pc' := 35) dX12_listNames_34 rfl rfl rfl ?_
        refine v_getF C (pc' := 38) rfl fl_X12_47 rfl rfl (t2 := 12) rfl (j := 0) rfl u0_0 dX12_listNames_35 rfl ?_
        refine v_aload_n C (pc' := 39) dX12_listNames_38 rfl rfl rfl ?_
        refine v_getF C (pc' := 42) rfl fl_X12_19 rfl rfl (t2 := 3) rfl (j := 0) rfl u0_0 dX12_listNames_39 rfl ?_
        refine v_aload_n C (pc' := 43) dX12_listNames_42 rfl rfl rfl ?_
        obtain ⟨y6, hy6, E⟩ := bind_some E
        refine v_callV C (pc' := 46) (rest := []) (c_cargo_giveNames l (gR h (8, 0) 4) y4.2 _ hy6) mv_X12_387 rfl rfl lv0_12 dX12_listNames_43 rfl rfl rfl ⟨Nat.le_of_ble_eq_true rfl, Nat.le_of_ble_eq_true rfl⟩ (Nat.le_of_ble_eq_true rfl) ⟨Nat.le_of_ble_eq_true rfl, Nat.le_of_ble_eq_true rfl⟩ ?_
        refine V.st (st' := []) rfl ?_
        refine v_sipush C (pc' := 49) dX12_listNames_46 (v := (150 : Int32)) (by decide) rfl ?_
        cases E
        exact v_reti C hr hlk dX12_listNames_49
      · rw [if_pos q5] at E
        refine v_sipush C (pc' := 33) dX12_listNames_30 (v := (425 : Int32)) (by decide) rfl ?_
        cases E
        exact v_reti C hr hlk dX12_listNames_33
    · rw [if_pos q3] at E
      refine v_sipush C (pc' := 22) dX12_listNames_19 (v := (550 : Int32)) (by decide) rfl ?_
      cases E
      exact v_reti C hr hlk dX12_listNames_22

def r_runOnPath (p1 : Option Nat) (h : Hp) : Option (Int32 × Hp) :=
  (nd 22 p1).bind fun x1 =>
  guardB (nI x1) 22 <|
  if (swm.getD (nI x1).toNatClampNeg 0) = (11 : Int32) then
    (r_changeTo (gR h (8, 0) 4) (250 : Int32) h).bind fun y4 =>
    some (y4.1, y4.2)
  else
  if (swm.getD (nI x1).toNatClampNeg 0) = (12 : Int32) then
    (r_makeDirectory h).bind fun y6 =>
    some (y6.1, y6.2)
  else
  if (swm.getD (nI x1).toNatClampNeg 0) = (13 : Int32) then
    (r_removeDirectory h).bind fun y8 =>
    some (y8.1, y8.2)
  else
  if (swm.getD (nI x1).toNatClampNeg 0) = (14 : Int32) then
    (r_deleteFile h).bind fun y10 =>
    some (y10.1, y10.2)
  else
  if (swm.getD (nI x1).toNatClampNeg 0) = (15 : Int32) then
    (r_tellSize h).bind fun y12 =>
    some (y12.1, y12.2)
  else
  if (swm.getD (nI x1).toNatClampNeg 0) = (16 : Int32) then
    (r_renameFrom h).bind fun y14 =>
    some (y14.1, y14.2)
  else
  if (swm.getD (nI x1).toNatClampNeg 0) = (17 : Int32) then
    (r_renameTo h).bind fun y16 =>
    some (y16.1, y16.2)
  else
  if (swm.getD (nI x1).toNatClampNeg 0) = (18 : Int32) then
    (r_retrieve h).bind fun y18 =>
    some (y18.1, y18.2)
  else
  if (swm.getD (nI x1).toNatClampNeg 0) = (19 : Int32) then
    (r_takeFile (0 : Int32) h).bind fun y20 =>
    some (y20.1, y20.2)
  else
  if (swm.getD (nI x1).toNatClampNeg 0) = (20 : Int32) then
    (r_takeFile (1 : Int32) h).bind fun y22 =>
    some (y22.1, y22.2)
  else
  (r_listNames h).bind fun y23 =>
  some (y23.1, y23.2)
set_option maxHeartbeats 2000000 in
set_option maxRecDepth 20000 in
theorem c_r_runOnPath (l : Launch) (p1 : Option Nat) (h : Hp) (r : Int32) (h' : Hp)  (E : r_runOnPath p1 h = some (r, h')) : Ctr l yX12_runOnPath cX12_runOnPath 2 (some .int) 4 90 0 0 true [aA 0 (some 0), aA 100 p1] h (some (aI r)) h' := by
  rw [r_runOnPath] at E
  refine Ctr.of (ls0 := [some (aA 0 (some 0)), some (aA 100 p1)]) (by decide +kernel) (Nat.le_of_ble_eq_true rfl) rfl ?_
  intro G p e s m args below meth c C hr hlk hnm
  refine v_gsS C (pc' := 3) (TT_of (i := 666) (by decide +kernel) (by decide +kernel)) dX12_runOnPath_0 rfl ?_
  refine v_aload_n C (pc' := 4) dX12_runOnPath_3 rfl rfl rfl ?_
  obtain ⟨x1, hx1, E⟩ := bind_some E
  obtain ⟨hx1, bx1⟩ := nd_some hx1
  refine V.st (st' := [aA 100 (some x1), aA 104 (some 0)]) (by rw [hx1]) ?_
  refine v_ord C (pc' := 7) bx1 rfl dX12_runOnPath_4 rfl ⟨Nat.le_of_ble_eq_true rfl, Nat.le_of_ble_eq_true rfl⟩ (Nat.le_of_ble_eq_true rfl) ⟨Nat.le_of_ble_eq_true rfl, Nat.le_of_ble_eq_true rfl⟩ ?_
  obtain ⟨g2, E⟩ := guardB_some E
  refine v_ialdS C (pc' := 8) g2 dX12_runOnPath_7 rfl ?_
  by_cases q3 : (swm.getD (nI x1).toNatClampNeg 0) = (11 : Int32)
  · rw [if_pos q3] at E
    refine v_tabIn C (pc' := 64) dX12_runOnPath_8 (by rw [q3]; decide) (by rw [q3]; decide) (off := 56) (by rw [q3]; decide) (by decide) ?_
    refine v_aload_n C (pc' := 65) dX12_runOnPath_64 rfl rfl rfl ?_
    refine v_aload_n C (pc' := 66) dX12_runOnPath_65 rfl rfl rfl ?_
    refine v_getF C (pc' := 69) rfl fl_X12_33 rfl rfl (t2 := 8) rfl (j := 0) rfl u0_0 dX12_runOnPath_66 rfl ?_
    refine v_getR C (pc' := 72) fl_X12_294 rfl rfl (t2 := 5) rfl lv0_8 dX12_runOnPath_69 rfl ?_
    refine v_sipush C (pc' := 75) dX12_runOnPath_72 (v := (250 : Int32)) (by decide) rfl ?_
    obtain ⟨y4, hy4, E⟩ := bind_some E
    refine v_callV C (pc' := 78) (rest := []) (c_r_changeTo l (gR h (8, 0) 4) (250 : Int32) h _ _ hy4) mv_X12_278 rfl rfl lv0_0 dX12_runOnPath_75 rfl rfl rfl ⟨Nat.le_of_ble_eq_true rfl, Nat.le_of_ble_eq_true rfl⟩ (Nat.le_of_ble_eq_true rfl) ⟨Nat.le_of_ble_eq_true rfl, Nat.le_of_ble_eq_true rfl⟩ ?_
    refine V.st (st' := [aI y4.1]) rfl ?_
    cases E
    exact v_reti C hr hlk dX12_runOnPath_78
  rw [if_neg q3] at E
  by_cases q5 : (swm.getD (nI x1).toNatClampNeg 0) = (12 : Int32)
  · rw [if_pos q5] at E
    refine v_tabIn C (pc' := 79) dX12_runOnPath_8 (by rw [q5]; decide) (by rw [q5]; decide) (off := 71) (by rw [q5]; decide) (by decide) ?_
    refine v_aload_n C (pc' := 80) dX12_runOnPath_79 rfl rfl rfl ?_
    obtain ⟨y6, hy6, E⟩ := bind_some E
    refine v_callV C (pc' := 83) (rest := []) (c_r_makeDirectory l h _ _ hy6) mv_X12_297 rfl rfl lv0_0 dX12_runOnPath_80 rfl rfl rfl ⟨Nat.le_of_ble_eq_true rfl, Nat.le_of_ble_eq_true rfl⟩ (Nat.le_of_ble_eq_true rfl) ⟨Nat.le_of_ble_eq_true rfl, Nat.le_of_ble_eq_true rfl⟩ ?_
    refine V.st (st' := [aI y6.1]) rfl ?_
    cases E
    exact v_reti C hr hlk dX12_runOnPath_83
  rw [if_neg q5] at E
  by_cases q7 : (swm.getD (nI x1).toNatClampNeg 0) = (13 : Int32)
  · rw [if_pos q7] at E
    refine v_tabIn C (pc' := 84) dX12_runOnPath_8 (by rw [q7]; decide) (by rw [q7]; decide) (off := 76) (by rw [q7]; decide) (by decide) ?_
    refine v_aload_n C (pc' := 85) dX12_runOnPath_84 rfl rfl rfl ?_
    obtain ⟨y8, hy8, E⟩ := bind_some E
    refine v_callV C (pc' := 88) (rest := []) (c_r_removeDirectory l h _ _ hy8) mv_X12_300 rfl rfl lv0_0 dX12_runOnPath_85 rfl rfl rfl ⟨Nat.le_of_ble_eq_true rfl, Nat.le_of_ble_eq_true rfl⟩ (Nat.le_of_ble_eq_true rfl) ⟨Nat.le_of_ble_eq_true rfl, Nat.le_of_ble_eq_true rfl⟩ ?_
    refine V.st (st' := [aI y8.1]) rfl ?_
    cases E
    exact v_reti C hr hlk dX12_runOnPath_88
  rw [if_neg q7] at E
  by_cases q9 : (swm.getD (nI x1).toNatClampNeg 0) = (14 : Int32)
  · rw [if_pos q9] at E
    refine v_tabIn C (pc' := 89) dX12_runOnPath_8 (by rw [q9]; decide) (by rw [q9]; decide) (off := 81) (by rw [q9]; decide) (by decide) ?_
    refine v_aload_n C (pc' := 90) dX12_runOnPath_89 rfl rfl rfl ?_
    obtain ⟨y10, hy10, E⟩ := bind_some E
    refine v_callV C (pc' := 93) (rest := []) (c_r_deleteFile l h _ _ hy10) mv_X12_303 rfl rfl lv0_0 dX12_runOnPath_90 rfl rfl rfl ⟨Nat.le_of_ble_eq_true rfl, Nat.le_of_ble_eq_true rfl⟩ (Nat.le_of_ble_eq_true rfl) ⟨Nat.le_of_ble_eq_true rfl, Nat.le_of_ble_eq_true rfl⟩ ?_
    refine V.st (st' := [aI y10.1]) rfl ?_
    cases E
    exact v_reti C hr hlk dX12_runOnPath_93
  rw [if_neg q9] at E
  by_cases q11 : (swm.getD (nI x1).toNatClampNeg 0) = (15 : Int32)
  · rw [if_pos q11] at E
    refine v_tabIn C (pc' := 94) dX12_runOnPath_8 (by rw [q11]; decide) (by rw [q11]; decide) (off := 86) (by rw [q11]; decide) (by decide) ?_
    refine v_aload_n C (pc' := 95) dX12_runOnPath_94 rfl rfl rfl ?_
    obtain ⟨y12, hy12, E⟩ := bind_some E
    refine v_callV C (pc' := 98) (rest := []) (c_r_tellSize l h _ _ hy12) mv_X12_306 rfl rfl lv0_0 dX12_runOnPath_95 rfl rfl rfl ⟨Nat.le_of_ble_eq_true rfl, Nat.le_of_ble_eq_true rfl⟩ (Nat.le_of_ble_eq_true rfl) ⟨Nat.le_of_ble_eq_true rfl, Nat.le_of_ble_eq_true rfl⟩ ?_
    refine V.st (st' := [aI y12.1]) rfl ?_
    cases E
    exact v_reti C hr hlk dX12_runOnPath_98
  rw [if_neg q11] at E
  by_cases q13 : (swm.getD (nI x1).toNatClampNeg 0) = (16 : Int32)
  · rw [if_pos q13] at E
    refine v_tabIn C (pc' := 99) dX12_runOnPath_8 (by rw [q13]; decide) (by rw [q13]; decide) (off := 91) (by rw [q13]; decide) (by decide) ?_
    refine v_aload_n C (pc' := 100) dX12_runOnPath_99 rfl rfl rfl ?_
    obtain ⟨y14, hy14, E⟩ := bind_some E
    refine v_callV C (pc' := 103) (rest := []) (c_r_renameFrom l h _ _ hy14) mv_X12_309 rfl rfl lv0_0 dX12_runOnPath_100 rfl rfl rfl ⟨Nat.le_of_ble_eq_true rfl, Nat.le_of_ble_eq_true rfl⟩ (Nat.le_of_ble_eq_true rfl) ⟨Nat.le_of_ble_eq_true rfl, Nat.le_of_ble_eq_true rfl⟩ ?_
    refine V.st (st' := [aI y14.1]) rfl ?_
    cases E
    exact v_reti C hr hlk dX12_runOnPath_103
  rw [if_neg q13] at E
  by_cases q15 : (swm.getD (nI x1).toNatClampNeg 0) = (17 : Int32)
  · rw [if_pos q15] at E
    refine v_tabIn C (pc' := 104) dX12_runOnPath_8 (by rw [q15]; decide) (by rw [q15]; decide) (off := 96) (by rw [q15]; decide) (by decide) ?_
    refine v_aload_n C (pc' := 105) dX12_runOnPath_104 rfl rfl rfl ?_
    obtain ⟨y16, hy16, E⟩ := bind_some E
    refine v_callV C (pc' := 108) (rest := []) (c_r_renameTo l h _ _ hy16) mv_X12_312 rfl rfl lv0_0 dX12_runOnPath_105 rfl rfl rfl ⟨Nat.le_of_ble_eq_true rfl, Nat.le_of_ble_eq_true rfl⟩ (Nat.le_of_ble_eq_true rfl) ⟨Nat.le_of_ble_eq_true rfl, Nat.le_of_ble_eq_true rfl⟩ ?_
    refine V.st (st' := [aI y16.1]) rfl ?_
    cases E
    exact v_reti C hr hlk dX12_runOnPath_108
  rw [if_neg q15] at E
  by_cases q17 : (swm.getD (nI x1).toNatClampNeg 0) = (18 : Int32)
  · rw [if_pos q17] at E
    refine v_tabIn C (pc' := 109) dX12_runOnPath_8 (by rw [q17]; decide) (by rw [q17]; decide) (off := 101) (by rw [q17]; decide) (by decide) ?_
    refine v_aload_n C (pc' := 110) dX12_runOnPath_109 rfl rfl rfl ?_
    obtain ⟨y18, hy18, E⟩ := bind_some E
    refine v_callV C (pc' := 113) (rest := []) (c_r_retrieve l h _ _ hy18) mv_X12_315 rfl rfl lv0_0 dX12_runOnPath_110 rfl rfl rfl ⟨Nat.le_of_ble_eq_true rfl, Nat.le_of_ble_eq_true rfl⟩ (Nat.le_of_ble_eq_true rfl) ⟨Nat.le_of_ble_eq_true rfl, Nat.le_of_ble_eq_true rfl⟩ ?_
    refine V.st (st' := [aI y18.1]) rfl ?_
    cases E
    exact v_reti C hr hlk dX12_runOnPath_113
  rw [if_neg q17] at E
  by_cases q19 : (swm.getD (nI x1).toNatClampNeg 0) = (19 : Int32)
  · rw [if_pos q19] at E
    refine v_tabIn C (pc' := 114) dX12_runOnPath_8 (by rw [q19]; decide) (by rw [q19]; decide) (off := 106) (by rw [q19]; decide) (by decide) ?_
    refine v_aload_n C (pc' := 115) dX12_runOnPath_114 rfl rfl rfl ?_
    refine v_iconst C (pc' := 116) dX12_runOnPath_115 (v := (0 : Int32)) (by decide) rfl ?_
    obtain ⟨y20, hy20, E⟩ := bind_some E
    refine v_callV C (pc' := 119) (rest := []) (c_r_takeFile l (0 : Int32) h _ _ hy20) mv_X12_318 rfl rfl lv0_0 dX12_runOnPath_116 rfl rfl rfl ⟨Nat.le_of_ble_eq_true rfl, Nat.le_of_ble_eq_true rfl⟩ (Nat.le_of_ble_eq_true rfl) ⟨Nat.le_of_ble_eq_true rfl, Nat.le_of_ble_eq_true rfl⟩ ?_
    refine V.st (st' := [aI y20.1]) rfl ?_
    cases E
    exact v_reti C hr hlk dX12_runOnPath_119
  rw [if_neg q19] at E
  by_cases q21 : (swm.getD (nI x1).toNatClampNeg 0) = (20 : Int32)
  · rw [if_pos q21] at E
    refine v_tabIn C (pc' := 120) dX12_runOnPath_8 (by rw [q21]; decide) (by rw [q21]; decide) (off := 112) (by rw [q21]; decide) (by decide) ?_
    refine v_aload_n C (pc' := 121) dX12_runOnPath_120 rfl rfl rfl ?_
    refine v_iconst C (pc' := 122) dX12_runOnPath_121 (v := (1 : Int32)) (by decide) rfl ?_
    obtain ⟨y22, hy22, E⟩ := bind_some E
    refine v_callV C (pc' := 125) (rest := []) (c_r_takeFile l (1 : Int32) h _ _ hy22) mv_X12_318 rfl rfl lv0_0 dX12_runOnPath_122 rfl rfl rfl ⟨Nat.le_of_ble_eq_true rfl, Nat.le_of_ble_eq_true rfl⟩ (Nat.le_of_ble_eq_true rfl) ⟨Nat.le_of_ble_eq_true rfl, Nat.le_of_ble_eq_true rfl⟩ ?_
    refine V.st (st' := [aI y22.1]) rfl ?_
    cases E
    exact v_reti C hr hlk dX12_runOnPath_125
  rw [if_neg q21] at E
  refine v_tabOut C (pc' := 126) dX12_runOnPath_8 (tab_out (lo := 11) (n := 10) (fun k hk => by rcases (show k = 0 ∨ k = 1 ∨ k = 2 ∨ k = 3 ∨ k = 4 ∨ k = 5 ∨ k = 6 ∨ k = 7 ∨ k = 8 ∨ k = 9 by omega) with rfl | rfl | rfl | rfl | rfl | rfl | rfl | rfl | rfl | rfl <;> intro z <;> first | exact q3 (z.trans (by decide)) | exact q5 (z.trans (by decide)) | exact q7 (z.trans (by decide)) | exact q9 (z.trans (by decide)) | exact q11 (z.trans (by decide)) | exact q13 (z.trans (by decide)) | exact q15 (z.trans (by decide)) | exact q17 (z.trans (by decide)) | exact q19 (z.trans (by decide)) | exact q21 (z.trans (by decide)))) (by decide) ?_
  refine v_aload_n C (pc' := 127) dX12_runOnPath_126 rfl rfl rfl ?_
  obtain ⟨y23, hy23, E⟩ := bind_some E
  refine v_callV C (pc' := 130) (rest := []) (c_r_listNames l h _ _ hy23) mv_X12_322 rfl rfl lv0_0 dX12_runOnPath_127 rfl rfl rfl ⟨Nat.le_of_ble_eq_true rfl, Nat.le_of_ble_eq_true rfl⟩ (Nat.le_of_ble_eq_true rfl) ⟨Nat.le_of_ble_eq_true rfl, Nat.le_of_ble_eq_true rfl⟩ ?_
  refine V.st (st' := [aI y23.1]) rfl ?_
  cases E
  exact v_reti C hr hlk dX12_runOnPath_130

def r_logOut  (h : Hp) : Option Hp :=
  some (sR (sR h (0, 0) 10 none) (0, 0) 11 none)
set_option maxHeartbeats 2000000 in
set_option maxRecDepth 20000 in
theorem c_r_logOut (l : Launch)  (h : Hp) (h' : Hp)  (E : r_logOut  h = some h') : Ctr l yX12_logOut cX12_logOut 1 none 0 0 0 0 true [aA 0 (some 0)] h none h' := by
  rw [r_logOut] at E
  refine Ctr.of (ls0 := [some (aA 0 (some 0))]) (by decide +kernel) (Nat.le_of_ble_eq_true rfl) rfl ?_
  intro G p e s m args below meth c C hr hlk hnm
  refine v_aload_n C (pc' := 1) dX12_logOut_0 rfl rfl rfl ?_
  refine v_null C (pc' := 2) (t := 5) dX12_logOut_1 rfl ?_
  refine v_putR C (pc' := 5) fp_X12_69 rfl rfl lv0_0 dX12_logOut_2 rfl (t2 := 5) rfl (fun _ => ⟨rfl, by decide⟩) ?_
  refine v_aload_n C (pc' := 6) dX12_logOut_5 rfl rfl rfl ?_
  refine v_null C (pc' := 7) (t := 5) dX12_logOut_6 rfl ?_
  refine v_putR C (pc' := 10) fp_X12_73 rfl rfl lv0_0 dX12_logOut_7 rfl (t2 := 5) rfl (fun _ => ⟨rfl, by decide⟩) ?_
  cases E
  exact v_retv C hr hlk dX12_logOut_10

def r_nameUser  (h : Hp) : Option (Int32 × Hp) :=
  (r_logOut h).bind fun y1 =>
  (line_argumentName y1).bind fun y2 =>
  some ((331 : Int32), (sL y1 (14, 1) 1 y2))
set_option maxHeartbeats 2000000 in
set_option maxRecDepth 20000 in
theorem c_r_nameUser (l : Launch)  (h : Hp) (r : Int32) (h' : Hp)  (E : r_nameUser  h = some (r, h')) : Ctr l yX12_nameUser cX12_nameUser 1 (some .int) 4 90 0 0 true [aA 0 (some 0)] h (some (aI r)) h' := by
  rw [r_nameUser] at E
  refine Ctr.of (ls0 := [some (aA 0 (some 0))]) (by decide +kernel) (Nat.le_of_ble_eq_true rfl) rfl ?_
  intro G p e s m args below meth c C hr hlk hnm
  refine v_aload_n C (pc' := 1) dX12_nameUser_0 rfl rfl rfl ?_
  obtain ⟨y1, hy1, E⟩ := bind_some E
  refine v_callV C (pc' := 4) (rest := []) (c_r_logOut l h _ hy1) mv_X12_123 rfl rfl lv0_0 dX12_nameUser_1 rfl rfl rfl ⟨Nat.le_of_ble_eq_true rfl, Nat.le_of_ble_eq_true rfl⟩ (Nat.le_of_ble_eq_true rfl) ⟨Nat.le_of_ble_eq_true rfl, Nat.le_of_ble_eq_true rfl⟩ ?_
  refine V.st (st' := []) rfl ?_
  refine v_aload_n C (pc' := 5) dX12_nameUser_4 rfl rfl rfl ?_
  refine v_getF C (pc' := 8) rfl fl_X12_58 rfl rfl (t2 := 14) rfl (j := 1) rfl u0_0 dX12_nameUser_5 rfl ?_
  refine v_aload_n C (pc' := 9) dX12_nameUser_8 rfl rfl rfl ?_
  refine v_getF C (pc' := 12) rfl fl_X12_10 rfl rfl (t2 := 1) rfl (j := 0) rfl u0_0 dX12_nameUser_9 rfl ?_
  obtain ⟨y2, hy2, E⟩ := bind_some E
  refine v_callV C (pc' := 15) (rest := [aA 14 (some 1)]) (c_line_argumentName l y1 _ hy2) mv_X12_236 rfl rfl lv0_1 dX12_nameUser_12 rfl rfl rfl ⟨Nat.le_of_ble_eq_true rfl, Nat.le_of_ble_eq_true rfl⟩ (Nat.le_of_ble_eq_true rfl) ⟨Nat.le_of_ble_eq_true rfl, Nat.le_of_ble_eq_true rfl⟩ ?_
  refine V.st (st' := [aL y2, aA 14 (some 1)]) rfl ?_
  refine v_putL C (pc' := 18) fp_X12_325 rfl rfl (lvq_me (by decide)) dX12_nameUser_15 rfl ?_
  refine v_sipush C (pc' := 21) dX12_nameUser_18 (v := (331 : Int32)) (by decide) rfl ?_
  cases E
  exact v_reti C hr hlk dX12_nameUser_21

def r_logIn  (h : Hp) : Option (Int32 × Hp) :=
  if (gL h (14, 0) 1) = (0 : Int64) then
    some ((503 : Int32), h)
  else
    (r_accountOf (gL h (14, 0) 1) h).bind fun y2 =>
    if y2 = none then
      (r_logOut h).bind fun y4 =>
      some ((530 : Int32), y4)
    else
      (nda h y2).bind fun x5 =>
      (line_argumentName h).bind fun y6 =>
      if (gL h (15, x5) 1) = y6 then
        some ((230 : Int32), (sR (sR h (0, 0) 10 (gR h (15, x5) 2)) (0, 0) 11 (gR (sR h (0, 0) 10 (gR h (15, x5) 2)) (15, x5) 2)))
      else
        (r_logOut h).bind fun y8 =>
        some ((530 : Int32), y8)
set_option maxHeartbeats 2000000 in
set_option maxRecDepth 20000 in
theorem c_r_logIn (l : Launch)  (h : Hp) (r : Int32) (h' : Hp)  (E : r_logIn  h = some (r, h')) : Ctr l yX12_logIn cX12_logIn 2 (some .int) 4 90 0 0 true [aA 0 (some 0)] h (some (aI r)) h' := by
  rw [r_logIn] at E
  refine Ctr.of (ls0 := [some (aA 0 (some 0)), none]) (by decide +kernel) (Nat.le_of_ble_eq_true rfl) rfl ?_
  intro G p e s m args below meth c C hr hlk hnm
  refine v_aload_n C (pc' := 1) dX12_logIn_0 rfl rfl rfl ?_
  refine v_getF C (pc' := 4) rfl fl_X12_54 rfl rfl (t2 := 14) rfl (j := 0) rfl u0_0 dX12_logIn_1 rfl ?_
  refine v_getL C (pc' := 7) fl_X12_325 rfl rfl (lvq_me (by decide)) dX12_logIn_4 rfl ?_
  refine v_lconst C (pc' := 8) dX12_logIn_7 (v := (0 : Int64)) (by decide) rfl ?_
  refine v_lcmp C (pc' := 9) dX12_logIn_8 rfl ?_
  refine v_if_ne C (tg := 16) (pc' := 12) dX12_logIn_9 (by decide) rfl (fun q1 => ?_) (fun q1 => ?_)
  · rw [lgc_eq] at q1
    rw [if_neg q1] at E
    refine v_aload_n C (pc' := 17) dX12_logIn_16 rfl rfl rfl ?_
    refine v_aload_n C (pc' := 18) dX12_logIn_17 rfl rfl rfl ?_
    refine v_getF C (pc' := 21) rfl fl_X12_54 rfl rfl (t2 := 14) rfl (j := 0) rfl u0_0 dX12_logIn_18 rfl ?_
    refine v_getL C (pc' := 24) fl_X12_325 rfl rfl (lvq_me (by decide)) dX12_logIn_21 rfl ?_
    obtain ⟨y2, hy2, E⟩ := bind_some E
    refine v_callV C (pc' := 27) (rest := []) (c_r_accountOf l (gL h (14, 0) 1) h _ hy2) mv_X12_107 rfl rfl lv0_0 dX12_logIn_24 rfl rfl rfl ⟨Nat.le_of_ble_eq_true rfl, Nat.le_of_ble_eq_true rfl⟩ (Nat.le_of_ble_eq_true rfl) ⟨Nat.le_of_ble_eq_true rfl, Nat.le_of_ble_eq_true rfl⟩ ?_
    refine V.st (st' := [aA 15 y2]) rfl ?_
    refine v_astore1 C (pc' := 28) dX12_logIn_27 (by decide) rfl rfl ?_
    refine v_aload_n C (pc' := 29) dX12_logIn_28 rfl rfl rfl ?_
    refine v_ifnull C (tg := 47) (pc' := 32) dX12_logIn_29 (by decide) rfl (fun q3 => ?_) (fun q3 => ?_)
    · rw [if_pos q3] at E
      refine v_aload_n C (pc' := 48) dX12_logIn_47 rfl rfl rfl ?_
      obtain ⟨y4, hy4, E⟩ := bind_some E
      refine v_callV C (pc' := 51) (rest := []) (c_r_logOut l h _ hy4) mv_X12_123 rfl rfl lv0_0 dX12_logIn_48 rfl rfl rfl ⟨Nat.le_of_ble_eq_true rfl, Nat.le_of_ble_eq_true rfl⟩ (Nat.le_of_ble_eq_true rfl) ⟨Nat.le_of_ble_eq_true rfl, Nat.le_of_ble_eq_true rfl⟩ ?_
      refine V.st (st' := []) rfl ?_
      refine v_sipush C (pc' := 54) dX12_logIn_51 (v := (530 : Int32)) (by decide) rfl ?_
      cases E
      exact v_reti C hr hlk dX12_logIn_54
    · rw [if_neg q3] at E
      refine v_aload_n C (pc' := 33) dX12_logIn_32 rfl rfl rfl ?_
      obtain ⟨x5, hx5, E⟩ := bind_some E
      obtain ⟨hx5, lvx5⟩ := nda_some hx5
      refine V.st (st' := [aA 15 (some x5)]) (by rw [hx5]) ?_
      refine v_getL C (pc' := 36) fl_X12_326 rfl rfl lvx5 dX12_logIn_33 rfl ?_
      refine v_aload_n C (pc' := 37) dX12_logIn_36 rfl rfl rfl ?_
      refine v_getF C (pc' := 40) rfl fl_X12_10 rfl rfl (t2 := 1) rfl (j := 0) rfl u0_0 dX12_logIn_37 rfl ?_
      obtain ⟨y6, hy6, E⟩ := bind_some E
      refine v_callV C (pc' := 43) (rest := [aL (gL h (15, x5) 1)]) (c_line_argumentName l h _ hy6) mv_X12_236 rfl rfl lv0_1 dX12_logIn_40 rfl rfl rfl ⟨Nat.le_of_ble_eq_true rfl, Nat.le_of_ble_eq_true rfl⟩ (Nat.le_of_ble_eq_true rfl) ⟨Nat.le_of_ble_eq_true rfl, Nat.le_of_ble_eq_true rfl⟩ ?_
      refine V.st (st' := [aL y6, aL (gL h (15, x5) 1)]) rfl ?_
      refine v_lcmp C (pc' := 44) dX12_logIn_43 rfl ?_
      refine v_if_eq C (tg := 55) (pc' := 47) dX12_logIn_44 (by decide) rfl (fun q7 => ?_) (fun q7 => ?_)
      · rw [lgc_eq] at q7
        rw [if_pos q7] at E
        refine v_aload_n C (pc' := 56) dX12_logIn_55 rfl rfl rfl ?_
        refine v_aload_n C (pc' := 57) dX12_logIn_56 rfl rfl rfl ?_
        refine V.st (st' := [aA 15 (some x5), aA 0 (some 0)]) (by rw [hx5]) ?_
        refine v_getR C (pc' := 60) fl_X12_329 rfl rfl (t2 := 5) rfl lvx5 dX12_logIn_57 rfl ?_
        refine v_putR C (pc' := 63) fp_X12_69 rfl rfl lv0_0 dX12_logIn_60 rfl (t2 := 5) rfl (fun _ => ⟨rfl, by decide⟩) ?_
        refine v_aload_n C (pc' := 64) dX12_logIn_63 rfl rfl rfl ?_
        refine v_aload_n C (pc' := 65) dX12_logIn_64 rfl rfl rfl ?_
        refine V.st (st' := [aA 15 (some x5), aA 0 (some 0)]) (by rw [hx5]) ?_
        refine v_getR C (pc' := 68) fl_X12_329 rfl rfl (t2 := 5) rfl lvx5 dX12_logIn_65 rfl ?_
        refine v_putR C (pc' := 71) fp_X12_73 rfl rfl lv0_0 dX12_logIn_68 rfl (t2 := 5) rfl (fun _ => ⟨rfl, by decide⟩) ?_
        refine v_sipush C (pc' := 74) dX12_logIn_71 (v := (230 : Int32)) (by decide) rfl ?_
        cases E
        exact v_reti C hr hlk dX12_logIn_74
      · rw [lgc_eq] at q7
        rw [if_neg q7] at E
        refine v_aload_n C (pc' := 48) dX12_logIn_47 rfl rfl rfl ?_
        obtain ⟨y8, hy8, E⟩ := bind_some E
        refine v_callV C (pc' := 51) (rest := []) (c_r_logOut l h _ hy8) mv_X12_123 rfl rfl lv0_0 dX12_logIn_48 rfl rfl rfl ⟨Nat.le_of_ble_eq_true rfl, Nat.le_of_ble_eq_true rfl⟩ (Nat.le_of_ble_eq_true rfl) ⟨Nat.le_of_ble_eq_true rfl, Nat.le_of_ble_eq_true rfl⟩ ?_
        refine V.st (st' := []) rfl ?_
        refine v_sipush C (pc' := 54) dX12_logIn_51 (v := (530 : Int32)) (by decide) rfl ?_
        cases E
        exact v_reti C hr hlk dX12_logIn_54
  · rw [lgc_eq] at q1
    rw [if_pos q1] at E
    refine v_sipush C (pc' := 15) dX12_logIn_12 (v := (503 : Int32)) (by decide) rfl ?_
    cases E
    exact v_reti C hr hlk dX12_logIn_15

def r_quit  (h : Hp) : Option (Int32 × Hp) :=
  (r_dropTransfer (sI h (0, 0) 8 (0 : Int32))).bind fun y1 =>
  some ((221 : Int32), y1)
set_option maxHeartbeats 2000000 in
set_option maxRecDepth 20000 in
theorem c_r_quit (l : Launch)  (h : Hp) (r : Int32) (h' : Hp)  (E : r_quit  h = some (r, h')) : Ctr l yX12_quit cX12_quit 1 (some .int) 2 40 0 0 true [aA 0 (some 0)] h (some (aI r)) h' := by
  rw [r_quit] at E
  refine Ctr.of (ls0 := [some (aA 0 (some 0))]) (by decide +kernel) (Nat.le_of_ble_eq_true rfl) rfl ?_
  intro G p e s m args below meth c C hr hlk hnm
  refine v_aload_n C (pc' := 1) dX12_quit_0 rfl rfl rfl ?_
  refine v_iconst C (pc' := 2) dX12_quit_1 (v := (0 : Int32)) (by decide) rfl ?_
  refine v_putZ C (pc' := 5) fp_X12_61 rfl rfl lv0_0 dX12_quit_2 rfl (Or.inl rfl) ?_
  refine v_aload_n C (pc' := 6) dX12_quit_5 rfl rfl rfl ?_
  obtain ⟨y1, hy1, E⟩ := bind_some E
  refine v_callV C (pc' := 9) (rest := []) (c_r_dropTransfer l (sI h (0, 0) 8 (0 : Int32)) _ hy1) mv_X12_159 rfl rfl lv0_0 dX12_quit_6 rfl rfl rfl ⟨Nat.le_of_ble_eq_true rfl, Nat.le_of_ble_eq_true rfl⟩ (Nat.le_of_ble_eq_true rfl) ⟨Nat.le_of_ble_eq_true rfl, Nat.le_of_ble_eq_true rfl⟩ ?_
  refine V.st (st' := []) rfl ?_
  refine v_sipush C (pc' := 12) dX12_quit_9 (v := (221 : Int32)) (by decide) rfl ?_
  cases E
  exact v_reti C hr hlk dX12_quit_12

def r_chooseType_j49 (v1 : Int32) (h : Hp) : Option (Int32 × Hp) :=
  (if v1 = (73 : Int32) then
    some (1 : Int32)
  else
    some (0 : Int32)).bind fun t10 =>
  guardZ t10 <|
  some ((200 : Int32), (sI h (0, 0) 12 t10))
def r_chooseType  (h : Hp) : Option (Int32 × Hp) :=
  (line_argumentLength h).bind fun y1 =>
  (if y1 = (1 : Int32) then
    (line_argumentStart h).bind fun y4 =>
    (line_at y4 h).bind fun y5 =>
    (line_capital y5 h).bind fun y6 =>
    some y6
  else
    some (0 : Int32)).bind fun t3 =>
  if t3 = (65 : Int32) then
    r_chooseType_j49 t3 h
  else
    if t3 = (73 : Int32) then
      r_chooseType_j49 t3 h
    else
      some ((504 : Int32), h)
set_option maxHeartbeats 2000000 in
set_option maxRecDepth 20000 in
theorem c_r_chooseType (l : Launch)  (h : Hp) (r : Int32) (h' : Hp)  (E : r_chooseType  h = some (r, h')) : Ctr l yX12_chooseType cX12_chooseType 2 (some .int) 3 61 0 0 true [aA 0 (some 0)] h (some (aI r)) h' := by
  rw [r_chooseType] at E
  refine Ctr.of (ls0 := [some (aA 0 (some 0)), none]) (by decide +kernel) (Nat.le_of_ble_eq_true rfl) rfl ?_
  intro G p e s m args below meth c C hr hlk hnm
  refine v_aload_n C (pc' := 1) dX12_chooseType_0 rfl rfl rfl ?_
  refine v_getF C (pc' := 4) rfl fl_X12_10 rfl rfl (t2 := 1) rfl (j := 0) rfl u0_0 dX12_chooseType_1 rfl ?_
  obtain ⟨y1, hy1, E⟩ := bind_some E
  refine v_callV C (pc' := 7) (rest := []) (c_line_argumentLength l h _ hy1) mv_X12_367 rfl rfl lv0_1 dX12_chooseType_4 rfl rfl rfl ⟨Nat.le_of_ble_eq_true rfl, Nat.le_of_ble_eq_true rfl⟩ (Nat.le_of_ble_eq_true rfl) ⟨Nat.le_of_ble_eq_true rfl, Nat.le_of_ble_eq_true rfl⟩ ?_
  refine V.st (st' := [aI y1]) rfl ?_
  refine v_iconst C (pc' := 8) dX12_chooseType_7 (v := (1 : Int32)) (by decide) rfl ?_
  obtain ⟨t3, At3, E⟩ := bind_some E
  have Kt3 : V true G p l e { frames := 3, cells := 0, slots := 0, locals := 61 } s m args below meth c 2 (MQ below (QcA true G (some (aI r)) h') args s 0 0 (A_ G)) h 0 0 32 [some (aA 0 (some 0)), none] [aI t3] := by
    refine v_istore1 C (pc' := 33) dX12_chooseType_32 (by decide) rfl rfl ?_
    refine v_iload_n C (pc' := 34) dX12_chooseType_33 rfl rfl rfl ?_
    refine v_bipush C (pc' := 36) dX12_chooseType_34 (v := (65 : Int32)) (by decide) rfl ?_
    have J49 : r_chooseType_j49 t3 h = some (r, h') → V true G p l e { frames := 3, cells := 0, slots := 0, locals := 61 } s m args below meth c 2 (MQ below (QcA true G (some (aI r)) h') args s 0 0 (A_ G)) h 0 0 49 [some (aA 0 (some 0)), some (aI t3)] [] := by
      intro  Ej49
      rw [r_chooseType_j49] at Ej49
      refine v_aload_n C (pc' := 50) dX12_chooseType_49 rfl rfl rfl ?_
      refine v_iload_n C (pc' := 51) dX12_chooseType_50 rfl rfl rfl ?_
      refine v_bipush C (pc' := 53) dX12_chooseType_51 (v := (73 : Int32)) (by decide) rfl ?_
      obtain ⟨t10, At10, Ej49⟩ := bind_some Ej49
      have Kt10 : V true G p l e { frames := 3, cells := 0, slots := 0, locals := 61 } s m args below meth c 2 (MQ below (QcA true G (some (aI r)) h') args s 0 0 (A_ G)) h 0 0 61 [some (aA 0 (some 0)), some (aI t3)] [aI t10, aA 0 (some 0)] := by
        obtain ⟨z11, Ej49⟩ := guardZ_some Ej49
        refine v_putZ C (pc' := 64) fp_X12_76 rfl rfl lv0_0 dX12_chooseType_61 rfl z11 ?_
        refine v_sipush C (pc' := 67) dX12_chooseType_64 (v := (200 : Int32)) (by decide) rfl ?_
        cases Ej49
        exact v_reti C hr hlk dX12_chooseType_67
      refine v_icmp_ne C (tg := 60) (pc' := 56) dX12_chooseType_53 (by decide) rfl (fun q9 => ?_) (fun q9 => ?_)
      · rw [if_neg q9] at At10
        refine v_iconst C (pc' := 61) dX12_chooseType_60 (v := (0 : Int32)) (by decide) rfl ?_
        cases At10
        exact Kt10
      · rw [if_pos q9] at At10
        refine v_iconst C (pc' := 57) dX12_chooseType_56 (v := (1 : Int32)) (by decide) rfl ?_
        refine v_goto C (pc' := 61) dX12_chooseType_57 (by decide) ?_
        cases At10
        exact Kt10
    refine v_icmp_eq C (tg := 49) (pc' := 39) dX12_chooseType_36 (by decide) rfl (fun q7 => ?_) (fun q7 => ?_)
    · rw [if_pos q7] at E
      exact J49  E
    · rw [if_neg q7] at E
      refine v_iload_n C (pc' := 40) dX12_chooseType_39 rfl rfl rfl ?_
      refine v_bipush C (pc' := 42) dX12_chooseType_40 (v := (73 : Int32)) (by decide) rfl ?_
      refine v_icmp_eq C (tg := 49) (pc' := 45) dX12_chooseType_42 (by decide) rfl (fun q8 => ?_) (fun q8 => ?_)
      · rw [if_pos q8] at E
        exact J49  E
      · rw [if_neg q8] at E
        refine v_sipush C (pc' := 48) dX12_chooseType_45 (v := (504 : Int32)) (by decide) rfl ?_
        cases E
        exact v_reti C hr hlk dX12_chooseType_48
  refine v_icmp_ne C (tg := 31) (pc' := 11) dX12_chooseType_8 (by decide) rfl (fun q2 => ?_) (fun q2 => ?_)
  · rw [if_neg q2] at At3
    refine v_iconst C (pc' := 32) dX12_chooseType_31 (v := (0 : Int32)) (by decide) rfl ?_
    cases At3
    exact Kt3
  · rw [if_pos q2] at At3
    refine v_aload_n C (pc' := 12) dX12_chooseType_11 rfl rfl rfl ?_
    refine v_getF C (pc' := 15) rfl fl_X12_10 rfl rfl (t2 := 1) rfl (j := 0) rfl u0_0 dX12_chooseType_12 rfl ?_
    refine v_aload_n C (pc' := 16) dX12_chooseType_15 rfl rfl rfl ?_
    refine v_getF C (pc' := 19) rfl fl_X12_10 rfl rfl (t2 := 1) rfl (j := 0) rfl u0_0 dX12_chooseType_16 rfl ?_
    obtain ⟨y4, hy4, At3⟩ := bind_some At3
    refine v_callV C (pc' := 22) (rest := [aA 1 (some 0)]) (c_line_argumentStart l h _ hy4) mv_X12_370 rfl rfl lv0_1 dX12_chooseType_19 rfl rfl rfl ⟨Nat.le_of_ble_eq_true rfl, Nat.le_of_ble_eq_true rfl⟩ (Nat.le_of_ble_eq_true rfl) ⟨Nat.le_of_ble_eq_true rfl, Nat.le_of_ble_eq_true rfl⟩ ?_
    refine V.st (st' := [aI y4, aA 1 (some 0)]) rfl ?_
    obtain ⟨y5, hy5, At3⟩ := bind_some At3
    refine v_callV C (pc' := 25) (rest := []) (c_line_at l y4 h _ hy5) mv_X12_373 rfl rfl lv0_1 dX12_chooseType_22 rfl rfl rfl ⟨Nat.le_of_ble_eq_true rfl, Nat.le_of_ble_eq_true rfl⟩ (Nat.le_of_ble_eq_true rfl) ⟨Nat.le_of_ble_eq_true rfl, Nat.le_of_ble_eq_true rfl⟩ ?_
    refine V.st (st' := [aI y5]) rfl ?_
    obtain ⟨y6, hy6, At3⟩ := bind_some At3
    refine v_callS C (pc' := 28) (rest := []) (c_line_capital l y5 h _ hy6) ms_X12_374 dX12_chooseType_25 rfl rfl rfl ⟨Nat.le_of_ble_eq_true rfl, Nat.le_of_ble_eq_true rfl⟩ (Nat.le_of_ble_eq_true rfl) ⟨Nat.le_of_ble_eq_true rfl, Nat.le_of_ble_eq_true rfl⟩ ?_
    refine V.st (st' := [aI y6]) rfl ?_
    refine v_goto C (pc' := 32) dX12_chooseType_28 (by decide) ?_
    cases At3
    exact Kt3

def r_restart  (h : Hp) : Option (Int32 × Hp) :=
  if (gI h (0, 0) 12) = 0 then
    some ((504 : Int32), h)
  else
    (line_argumentNumber h).bind fun y2 =>
    some ((350 : Int32), (sI h (14, 1) 0 y2))
set_option maxHeartbeats 2000000 in
set_option maxRecDepth 20000 in
theorem c_r_restart (l : Launch)  (h : Hp) (r : Int32) (h' : Hp)  (E : r_restart  h = some (r, h')) : Ctr l yX12_restart cX12_restart 1 (some .int) 3 66 0 0 true [aA 0 (some 0)] h (some (aI r)) h' := by
  rw [r_restart] at E
  refine Ctr.of (ls0 := [some (aA 0 (some 0))]) (by decide +kernel) (Nat.le_of_ble_eq_true rfl) rfl ?_
  intro G p e s m args below meth c C hr hlk hnm
  refine v_aload_n C (pc' := 1) dX12_restart_0 rfl rfl rfl ?_
  refine v_getI C (pc' := 4) fl_X12_76 rfl (Or.inr rfl) lv0_0 dX12_restart_1 rfl ?_
  refine v_if_ne C (tg := 11) (pc' := 7) dX12_restart_4 (by decide) rfl (fun q1 => ?_) (fun q1 => ?_)
  · rw [if_neg q1] at E
    refine v_aload_n C (pc' := 12) dX12_restart_11 rfl rfl rfl ?_
    refine v_getF C (pc' := 15) rfl fl_X12_58 rfl rfl (t2 := 14) rfl (j := 1) rfl u0_0 dX12_restart_12 rfl ?_
    refine v_aload_n C (pc' := 16) dX12_restart_15 rfl rfl rfl ?_
    refine v_getF C (pc' := 19) rfl fl_X12_10 rfl rfl (t2 := 1) rfl (j := 0) rfl u0_0 dX12_restart_16 rfl ?_
    obtain ⟨y2, hy2, E⟩ := bind_some E
    refine v_callV C (pc' := 22) (rest := [aA 14 (some 1)]) (c_line_argumentNumber l h _ hy2) mv_X12_244 rfl rfl lv0_1 dX12_restart_19 rfl rfl rfl ⟨Nat.le_of_ble_eq_true rfl, Nat.le_of_ble_eq_true rfl⟩ (Nat.le_of_ble_eq_true rfl) ⟨Nat.le_of_ble_eq_true rfl, Nat.le_of_ble_eq_true rfl⟩ ?_
    refine V.st (st' := [aI y2, aA 14 (some 1)]) rfl ?_
    refine v_putI C (pc' := 25) fp_X12_378 rfl rfl (lvq_me (by decide)) dX12_restart_22 rfl ?_
    refine v_sipush C (pc' := 28) dX12_restart_25 (v := (350 : Int32)) (by decide) rfl ?_
    cases E
    exact v_reti C hr hlk dX12_restart_28
  · rw [if_pos q1] at E
    refine v_sipush C (pc' := 10) dX12_restart_7 (v := (504 : Int32)) (by decide) rfl ?_
    cases E
    exact v_reti C hr hlk dX12_restart_10

def r_run (p1 : Option Nat) (h : Hp) : Option (Int32 × Hp) :=
  (nd 22 p1).bind fun x1 =>
  guardB (nI x1) 22 <|
  if (swm.getD (nI x1).toNatClampNeg 0) = (1 : Int32) then
    (r_nameUser h).bind fun y4 =>
    some (y4.1, y4.2)
  else
  if (swm.getD (nI x1).toNatClampNeg 0) = (2 : Int32) then
    (r_logIn h).bind fun y6 =>
    some (y6.1, y6.2)
  else
  if (swm.getD (nI x1).toNatClampNeg 0) = (3 : Int32) then
    (r_quit h).bind fun y8 =>
    some (y8.1, y8.2)
  else
  if (swm.getD (nI x1).toNatClampNeg 0) = (4 : Int32) then
    (msg_spellPath (gR h (0, 0) 11) h).bind fun y10 =>
    some ((257 : Int32), y10)
  else
  if (swm.getD (nI x1).toNatClampNeg 0) = (5 : Int32) then
    (tree_step (gR h (0, 0) 11) (50775103373312 : Int64) h).bind fun y12 =>
    (r_changeTo y12 (200 : Int32) h).bind fun y13 =>
    some (y13.1, y13.2)
  else
  if (swm.getD (nI x1).toNatClampNeg 0) = (6 : Int32) then
    (r_chooseType h).bind fun y15 =>
    some (y15.1, y15.2)
  else
  if (swm.getD (nI x1).toNatClampNeg 0) = (7 : Int32) then
    (r_restart h).bind fun y17 =>
    some (y17.1, y17.2)
  else
  if (swm.getD (nI x1).toNatClampNeg 0) = (8 : Int32) then
    some ((227 : Int32), (sR h (0, 0) 13 (some 1)))
  else
  if (swm.getD (nI x1).toNatClampNeg 0) = (9 : Int32) then
    (line_argumentPort (sR h (0, 0) 13 (some 3))).bind fun y20 =>
    some ((200 : Int32), (sI (sR h (0, 0) 13 (some 3)) (0, 0) 14 y20))
  else
  if (swm.getD (nI x1).toNatClampNeg 0) = (10 : Int32) then
    (r_abort h).bind fun y22 =>
    some (y22.1, y22.2)
  else
  some ((200 : Int32), h)
set_option maxHeartbeats 2000000 in
set_option maxRecDepth 20000 in
theorem c_r_run (l : Launch) (p1 : Option Nat) (h : Hp) (r : Int32) (h' : Hp)  (E : r_run p1 h = some (r, h')) : Ctr l yX12_run cX12_run 2 (some .int) 5 111 0 0 true [aA 0 (some 0), aA 100 p1] h (some (aI r)) h' := by
  rw [r_run] at E
  refine Ctr.of (ls0 := [some (aA 0 (some 0)), some (aA 100 p1)]) (by decide +kernel) (Nat.le_of_ble_eq_true rfl) rfl ?_
  intro G p e s m args below meth c C hr hlk hnm
  refine v_gsS C (pc' := 3) (TT_of (i := 666) (by decide +kernel) (by decide +kernel)) dX12_run_0 rfl ?_
  refine v_aload_n C (pc' := 4) dX12_run_3 rfl rfl rfl ?_
  obtain ⟨x1, hx1, E⟩ := bind_some E
  obtain ⟨hx1, bx1⟩ := nd_some hx1
  refine V.st (st' := [aA 100 (some x1), aA 104 (some 0)]) (by rw [hx1]) ?_
  refine v_ord C (pc' := 7) bx1 rfl dX12_run_4 rfl ⟨Nat.le_of_ble_eq_true rfl, Nat.le_of_ble_eq_true rfl⟩ (Nat.le_of_ble_eq_true rfl) ⟨Nat.le_of_ble_eq_true rfl, Nat.le_of_ble_eq_true rfl⟩ ?_
  obtain ⟨g2, E⟩ := guardB_some E
  refine v_ialdS C (pc' := 8) g2 dX12_run_7 rfl ?_
  by_cases q3 : (swm.getD (nI x1).toNatClampNeg 0) = (1 : Int32)
  · rw [if_pos q3] at E
    refine v_tabIn C (pc' := 64) dX12_run_8 (by rw [q3]; decide) (by rw [q3]; decide) (off := 56) (by rw [q3]; decide) (by decide) ?_
    refine v_aload_n C (pc' := 65) dX12_run_64 rfl rfl rfl ?_
    obtain ⟨y4, hy4, E⟩ := bind_some E
    refine v_callV C (pc' := 68) (rest := []) (c_r_nameUser l h _ _ hy4) mv_X12_259 rfl rfl lv0_0 dX12_run_65 rfl rfl rfl ⟨Nat.le_of_ble_eq_true rfl, Nat.le_of_ble_eq_true rfl⟩ (Nat.le_of_ble_eq_true rfl) ⟨Nat.le_of_ble_eq_true rfl, Nat.le_of_ble_eq_true rfl⟩ ?_
    refine V.st (st' := [aI y4.1]) rfl ?_
    cases E
    exact v_reti C hr hlk dX12_run_68
  rw [if_neg q3] at E
  by_cases q5 : (swm.getD (nI x1).toNatClampNeg 0) = (2 : Int32)
  · rw [if_pos q5] at E
    refine v_tabIn C (pc' := 69) dX12_run_8 (by rw [q5]; decide) (by rw [q5]; decide) (off := 61) (by rw [q5]; decide) (by decide) ?_
    refine v_aload_n C (pc' := 70) dX12_run_69 rfl rfl rfl ?_
    obtain ⟨y6, hy6, E⟩ := bind_some E
    refine v_callV C (pc' := 73) (rest := []) (c_r_logIn l h _ _ hy6) mv_X12_262 rfl rfl lv0_0 dX12_run_70 rfl rfl rfl ⟨Nat.le_of_ble_eq_true rfl, Nat.le_of_ble_eq_true rfl⟩ (Nat.le_of_ble_eq_true rfl) ⟨Nat.le_of_ble_eq_true rfl, Nat.le_of_ble_eq_true rfl⟩ ?_
    refine V.st (st' := [aI y6.1]) rfl ?_
    cases E
    exact v_reti C hr hlk dX12_run_73
  rw [if_neg q5] at E
  by_cases q7 : (swm.getD (nI x1).toNatClampNeg 0) = (3 : Int32)
  · rw [if_pos q7] at E
    refine v_tabIn C (pc' := 74) dX12_run_8 (by rw [q7]; decide) (by rw [q7]; decide) (off := 66) (by rw [q7]; decide) (by decide) ?_
    refine v_aload_n C (pc' := 75) dX12_run_74 rfl rfl rfl ?_
    obtain ⟨y8, hy8, E⟩ := bind_some E
    refine v_callV C (pc' := 78) (rest := []) (c_r_quit l h _ _ hy8) mv_X12_265 rfl rfl lv0_0 dX12_run_75 rfl rfl rfl ⟨Nat.le_of_ble_eq_true rfl, Nat.le_of_ble_eq_true rfl⟩ (Nat.le_of_ble_eq_true rfl) ⟨Nat.le_of_ble_eq_true rfl, Nat.le_of_ble_eq_true rfl⟩ ?_
    refine V.st (st' := [aI y8.1]) rfl ?_
    cases E
    exact v_reti C hr hlk dX12_run_78
  rw [if_neg q7] at E
  by_cases q9 : (swm.getD (nI x1).toNatClampNeg 0) = (4 : Int32)
  · rw [if_pos q9] at E
    refine v_tabIn C (pc' := 79) dX12_run_8 (by rw [q9]; decide) (by rw [q9]; decide) (off := 71) (by rw [q9]; decide) (by decide) ?_
    refine v_aload_n C (pc' := 80) dX12_run_79 rfl rfl rfl ?_
    refine v_getF C (pc' := 83) rfl fl_X12_40 rfl rfl (t2 := 10) rfl (j := 0) rfl u0_0 dX12_run_80 rfl ?_
    refine v_aload_n C (pc' := 84) dX12_run_83 rfl rfl rfl ?_
    refine v_getR C (pc' := 87) fl_X12_73 rfl rfl (t2 := 5) rfl lv0_0 dX12_run_84 rfl ?_
    obtain ⟨y10, hy10, E⟩ := bind_some E
    refine v_callV C (pc' := 90) (rest := []) (c_msg_spellPath l (gR h (0, 0) 11) h _ hy10) mv_X12_268 rfl rfl lv0_10 dX12_run_87 rfl rfl rfl ⟨Nat.le_of_ble_eq_true rfl, Nat.le_of_ble_eq_true rfl⟩ (Nat.le_of_ble_eq_true rfl) ⟨Nat.le_of_ble_eq_true rfl, Nat.le_of_ble_eq_true rfl⟩ ?_
    refine V.st (st' := []) rfl ?_
    refine v_sipush C (pc' := 93) dX12_run_90 (v := (257 : Int32)) (by decide) rfl ?_
    cases E
    exact v_reti C hr hlk dX12_run_93
  rw [if_neg q9] at E
  by_cases q11 : (swm.getD (nI x1).toNatClampNeg 0) = (5 : Int32)
  · rw [if_pos q11] at E
    refine v_tabIn C (pc' := 94) dX12_run_8 (by rw [q11]; decide) (by rw [q11]; decide) (off := 86) (by rw [q11]; decide) (by decide) ?_
    refine v_aload_n C (pc' := 95) dX12_run_94 rfl rfl rfl ?_
    refine v_aload_n C (pc' := 96) dX12_run_95 rfl rfl rfl ?_
    refine v_getF C (pc' := 99) rfl fl_X12_19 rfl rfl (t2 := 3) rfl (j := 0) rfl u0_0 dX12_run_96 rfl ?_
    refine v_aload_n C (pc' := 100) dX12_run_99 rfl rfl rfl ?_
    refine v_getR C (pc' := 103) fl_X12_73 rfl rfl (t2 := 5) rfl lv0_0 dX12_run_100 rfl ?_
    refine v_ldc2 C (pc' := 106) dX12_run_103 (v := (50775103373312 : Int64)) (TT_of (i := 807) (by decide +kernel) (by decide +kernel)) rfl ?_
    obtain ⟨y12, hy12, E⟩ := bind_some E
    refine v_callV C (pc' := 109) (rest := [aA 0 (some 0)]) (c_tree_step l (gR h (0, 0) 11) (50775103373312 : Int64) h _ hy12) mv_X12_274 rfl rfl lv0_3 dX12_run_106 rfl rfl rfl ⟨Nat.le_of_ble_eq_true rfl, Nat.le_of_ble_eq_true rfl⟩ (Nat.le_of_ble_eq_true rfl) ⟨Nat.le_of_ble_eq_true rfl, Nat.le_of_ble_eq_true rfl⟩ ?_
    refine V.st (st' := [aA 5 y12, aA 0 (some 0)]) rfl ?_
    refine v_sipush C (pc' := 112) dX12_run_109 (v := (200 : Int32)) (by decide) rfl ?_
    obtain ⟨y13, hy13, E⟩ := bind_some E
    refine v_callV C (pc' := 115) (rest := []) (c_r_changeTo l y12 (200 : Int32) h _ _ hy13) mv_X12_278 rfl rfl lv0_0 dX12_run_112 rfl rfl rfl ⟨Nat.le_of_ble_eq_true rfl, Nat.le_of_ble_eq_true rfl⟩ (Nat.le_of_ble_eq_true rfl) ⟨Nat.le_of_ble_eq_true rfl, Nat.le_of_ble_eq_true rfl⟩ ?_
    refine V.st (st' := [aI y13.1]) rfl ?_
    cases E
    exact v_reti C hr hlk dX12_run_115
  rw [if_neg q11] at E
  by_cases q14 : (swm.getD (nI x1).toNatClampNeg 0) = (6 : Int32)
  · rw [if_pos q14] at E
    refine v_tabIn C (pc' := 116) dX12_run_8 (by rw [q14]; decide) (by rw [q14]; decide) (off := 108) (by rw [q14]; decide) (by decide) ?_
    refine v_aload_n C (pc' := 117) dX12_run_116 rfl rfl rfl ?_
    obtain ⟨y15, hy15, E⟩ := bind_some E
    refine v_callV C (pc' := 120) (rest := []) (c_r_chooseType l h _ _ hy15) mv_X12_282 rfl rfl lv0_0 dX12_run_117 rfl rfl rfl ⟨Nat.le_of_ble_eq_true rfl, Nat.le_of_ble_eq_true rfl⟩ (Nat.le_of_ble_eq_true rfl) ⟨Nat.le_of_ble_eq_true rfl, Nat.le_of_ble_eq_true rfl⟩ ?_
    refine V.st (st' := [aI y15.1]) rfl ?_
    cases E
    exact v_reti C hr hlk dX12_run_120
  rw [if_neg q14] at E
  by_cases q16 : (swm.getD (nI x1).toNatClampNeg 0) = (7 : Int32)
  · rw [if_pos q16] at E
    refine v_tabIn C (pc' := 121) dX12_run_8 (by rw [q16]; decide) (by rw [q16]; decide) (off := 113) (by rw [q16]; decide) (by decide) ?_
    refine v_aload_n C (pc' := 122) dX12_run_121 rfl rfl rfl ?_
    obtain ⟨y17, hy17, E⟩ := bind_some E
    refine v_callV C (pc' := 125) (rest := []) (c_r_restart l h _ _ hy17) mv_X12_285 rfl rfl lv0_0 dX12_run_122 rfl rfl rfl ⟨Nat.le_of_ble_eq_true rfl, Nat.le_of_ble_eq_true rfl⟩ (Nat.le_of_ble_eq_true rfl) ⟨Nat.le_of_ble_eq_true rfl, Nat.le_of_ble_eq_true rfl⟩ ?_
    refine V.st (st' := [aI y17.1]) rfl ?_
    cases E
    exact v_reti C hr hlk dX12_run_125
  rw [if_neg q16] at E
  by_cases q18 : (swm.getD (nI x1).toNatClampNeg 0) = (8 : Int32)
  · rw [if_pos q18] at E
    refine v_tabIn C (pc' := 126) dX12_run_8 (by rw [q18]; decide) (by rw [q18]; decide) (off := 118) (by rw [q18]; decide) (by decide) ?_
    refine v_aload_n C (pc' := 127) dX12_run_126 rfl rfl rfl ?_
    refine v_gsW C (pc' := 130) (k := 1) (by decide) (TT_of (i := 821) (by decide +kernel) (by decide +kernel)) dX12_run_127 rfl ?_
    refine v_putR C (pc' := 133) fp_X12_85 rfl rfl lv0_0 dX12_run_130 rfl (t2 := 102) rfl (fun _ => ⟨rfl, by decide⟩) ?_
    refine v_sipush C (pc' := 136) dX12_run_133 (v := (227 : Int32)) (by decide) rfl ?_
    cases E
    exact v_reti C hr hlk dX12_run_136
  rw [if_neg q18] at E
  by_cases q19 : (swm.getD (nI x1).toNatClampNeg 0) = (9 : Int32)
  · rw [if_pos q19] at E
    refine v_tabIn C (pc' := 137) dX12_run_8 (by rw [q19]; decide) (by rw [q19]; decide) (off := 129) (by rw [q19]; decide) (by decide) ?_
    refine v_aload_n C (pc' := 138) dX12_run_137 rfl rfl rfl ?_
    refine v_gsW C (pc' := 141) (k := 3) (by decide) (TT_of (i := 747) (by decide +kernel) (by decide +kernel)) dX12_run_138 rfl ?_
    refine v_putR C (pc' := 144) fp_X12_85 rfl rfl lv0_0 dX12_run_141 rfl (t2 := 102) rfl (fun _ => ⟨rfl, by decide⟩) ?_
    refine v_aload_n C (pc' := 145) dX12_run_144 rfl rfl rfl ?_
    refine v_aload_n C (pc' := 146) dX12_run_145 rfl rfl rfl ?_
    refine v_getF C (pc' := 149) rfl fl_X12_10 rfl rfl (t2 := 1) rfl (j := 0) rfl u0_0 dX12_run_146 rfl ?_
    obtain ⟨y20, hy20, E⟩ := bind_some E
    refine v_callV C (pc' := 152) (rest := [aA 0 (some 0)]) (c_line_argumentPort l (sR h (0, 0) 13 (some 3)) _ hy20) mv_X12_247 rfl rfl lv0_1 dX12_run_149 rfl rfl rfl ⟨Nat.le_of_ble_eq_true rfl, Nat.le_of_ble_eq_true rfl⟩ (Nat.le_of_ble_eq_true rfl) ⟨Nat.le_of_ble_eq_true rfl, Nat.le_of_ble_eq_true rfl⟩ ?_
    refine V.st (st' := [aI y20, aA 0 (some 0)]) rfl ?_
    refine v_putI C (pc' := 155) fp_X12_88 rfl rfl lv0_0 dX12_run_152 rfl ?_
    refine v_sipush C (pc' := 158) dX12_run_155 (v := (200 : Int32)) (by decide) rfl ?_
    cases E
    exact v_reti C hr hlk dX12_run_158
  rw [if_neg q19] at E
  by_cases q21 : (swm.getD (nI x1).toNatClampNeg 0) = (10 : Int32)
  · rw [if_pos q21] at E
    refine v_tabIn C (pc' := 159) dX12_run_8 (by rw [q21]; decide) (by rw [q21]; decide) (off := 151) (by rw [q21]; decide) (by decide) ?_
    refine v_aload_n C (pc' := 160) dX12_run_159 rfl rfl rfl ?_
    obtain ⟨y22, hy22, E⟩ := bind_some E
    refine v_callV C (pc' := 163) (rest := []) (c_r_abort l h _ _ hy22) mv_X12_291 rfl rfl lv0_0 dX12_run_160 rfl rfl rfl ⟨Nat.le_of_ble_eq_true rfl, Nat.le_of_ble_eq_true rfl⟩ (Nat.le_of_ble_eq_true rfl) ⟨Nat.le_of_ble_eq_true rfl, Nat.le_of_ble_eq_true rfl⟩ ?_
    refine V.st (st' := [aI y22.1]) rfl ?_
    cases E
    exact v_reti C hr hlk dX12_run_163
  rw [if_neg q21] at E
  refine v_tabOut C (pc' := 164) dX12_run_8 (tab_out (lo := 1) (n := 10) (fun k hk => by rcases (show k = 0 ∨ k = 1 ∨ k = 2 ∨ k = 3 ∨ k = 4 ∨ k = 5 ∨ k = 6 ∨ k = 7 ∨ k = 8 ∨ k = 9 by omega) with rfl | rfl | rfl | rfl | rfl | rfl | rfl | rfl | rfl | rfl <;> intro z <;> first | exact q3 (z.trans (by decide)) | exact q5 (z.trans (by decide)) | exact q7 (z.trans (by decide)) | exact q9 (z.trans (by decide)) | exact q11 (z.trans (by decide)) | exact q14 (z.trans (by decide)) | exact q16 (z.trans (by decide)) | exact q18 (z.trans (by decide)) | exact q19 (z.trans (by decide)) | exact q21 (z.trans (by decide)))) (by decide) ?_
  refine v_sipush C (pc' := 167) dX12_run_164 (v := (200 : Int32)) (by decide) rfl ?_
  cases E
  exact v_reti C hr hlk dX12_run_167

def r_answerLine_j90 (v1 : Option Nat) (h : Hp) : Option (Int32 × Hp) :=
  (path_walk (gR h (0, 0) 10) (gR h (0, 0) 11) h).bind fun y17 =>
  (r_runOnPath v1 y17).bind fun y18 =>
  some (y18.1, y18.2)
def r_answerLine_j74 (v1 : Option Nat) (h : Hp) : Option (Int32 × Hp) :=
  (nd 22 v1).bind fun x13 =>
  if (cArg.getD x13 0) = (2 : Int32) then
    r_answerLine_j90 v1 h
  else
    if (cArg.getD x13 0) = (3 : Int32) then
      r_answerLine_j90 v1 h
    else
      (r_run v1 h).bind fun y16 =>
      some (y16.1, y16.2)
def r_answerLine_j53 (v1 : Option Nat) (h : Hp) : Option (Int32 × Hp) :=
  if (gI h (12, 0) 1) = 0 then
    r_answerLine_j74 v1 h
  else
    (nd 22 v1).bind fun x11 =>
    if (cDT.getD x11 0) = 0 then
      some ((503 : Int32), h)
    else
      r_answerLine_j74 v1 h
def r_answerLine  (h : Hp) : Option (Int32 × Hp) :=
  (r_commandOfLine h).bind fun y1 =>
  if y1 = none then
    some ((500 : Int32), h)
  else
    (line_endsWithItsSpace h).bind fun y3 =>
    if y3 = 0 then
      (r_argumentFits y1 h).bind fun y5 =>
      if y5.1 = 0 then
        some ((501 : Int32), y5.2)
      else
        if (gR y5.2 (0, 0) 10) = none then
          (nd 22 y1).bind fun x8 =>
          if (cWL.getD x8 0) = 0 then
            some ((530 : Int32), y5.2)
          else
            r_answerLine_j53 y1 y5.2
        else
          r_answerLine_j53 y1 y5.2
    else
      some ((500 : Int32), h)
set_option maxHeartbeats 2000000 in
set_option maxRecDepth 20000 in
theorem c_r_answerLine (l : Launch)  (h : Hp) (r : Int32) (h' : Hp)  (E : r_answerLine  h = some (r, h')) : Ctr l yX12_answerLine cX12_answerLine 2 (some .int) 7 152 0 0 true [aA 0 (some 0)] h (some (aI r)) h' := by
  rw [r_answerLine] at E
  refine Ctr.of (ls0 := [some (aA 0 (some 0)), none]) (by decide +kernel) (Nat.le_of_ble_eq_true rfl) rfl ?_
  intro G p e s m args below meth c C hr hlk hnm
  refine v_aload_n C (pc' := 1) dX12_answerLine_0 rfl rfl rfl ?_
  obtain ⟨y1, hy1, E⟩ := bind_some E
  refine v_callV C (pc' := 4) (rest := []) (c_r_commandOfLine l h _ hy1) mv_X12_185 rfl rfl lv0_0 dX12_answerLine_1 rfl rfl rfl ⟨Nat.le_of_ble_eq_true rfl, Nat.le_of_ble_eq_true rfl⟩ (Nat.le_of_ble_eq_true rfl) ⟨Nat.le_of_ble_eq_true rfl, Nat.le_of_ble_eq_true rfl⟩ ?_
  refine V.st (st' := [aA 100 y1]) rfl ?_
  refine v_astore1 C (pc' := 5) dX12_answerLine_4 (by decide) rfl rfl ?_
  refine v_aload_n C (pc' := 6) dX12_answerLine_5 rfl rfl rfl ?_
  refine v_ifnull C (tg := 19) (pc' := 9) dX12_answerLine_6 (by decide) rfl (fun q2 => ?_) (fun q2 => ?_)
  · rw [if_pos q2] at E
    refine v_sipush C (pc' := 22) dX12_answerLine_19 (v := (500 : Int32)) (by decide) rfl ?_
    cases E
    exact v_reti C hr hlk dX12_answerLine_22
  · rw [if_neg q2] at E
    refine v_aload_n C (pc' := 10) dX12_answerLine_9 rfl rfl rfl ?_
    refine v_getF C (pc' := 13) rfl fl_X12_10 rfl rfl (t2 := 1) rfl (j := 0) rfl u0_0 dX12_answerLine_10 rfl ?_
    obtain ⟨y3, hy3, E⟩ := bind_some E
    refine v_callV C (pc' := 16) (rest := []) (c_line_endsWithItsSpace l h _ hy3) mv_X12_189 rfl rfl lv0_1 dX12_answerLine_13 rfl rfl rfl ⟨Nat.le_of_ble_eq_true rfl, Nat.le_of_ble_eq_true rfl⟩ (Nat.le_of_ble_eq_true rfl) ⟨Nat.le_of_ble_eq_true rfl, Nat.le_of_ble_eq_true rfl⟩ ?_
    refine V.st (st' := [aI y3]) rfl ?_
    refine v_if_eq C (tg := 23) (pc' := 19) dX12_answerLine_16 (by decide) rfl (fun q4 => ?_) (fun q4 => ?_)
    · rw [if_pos q4] at E
      refine v_aload_n C (pc' := 24) dX12_answerLine_23 rfl rfl rfl ?_
      refine v_aload_n C (pc' := 25) dX12_answerLine_24 rfl rfl rfl ?_
      obtain ⟨y5, hy5, E⟩ := bind_some E
      refine v_callV C (pc' := 28) (rest := []) (c_r_argumentFits l y1 h _ _ hy5) mv_X12_192 rfl rfl lv0_0 dX12_answerLine_25 rfl rfl rfl ⟨Nat.le_of_ble_eq_true rfl, Nat.le_of_ble_eq_true rfl⟩ (Nat.le_of_ble_eq_true rfl) ⟨Nat.le_of_ble_eq_true rfl, Nat.le_of_ble_eq_true rfl⟩ ?_
      refine V.st (st' := [aI y5.1]) rfl ?_
      refine v_if_ne C (tg := 35) (pc' := 31) dX12_answerLine_28 (by decide) rfl (fun q6 => ?_) (fun q6 => ?_)
      · rw [if_neg q6] at E
        refine v_aload_n C (pc' := 36) dX12_answerLine_35 rfl rfl rfl ?_
        refine v_getR C (pc' := 39) fl_X12_69 rfl rfl (t2 := 5) rfl lv0_0 dX12_answerLine_36 rfl ?_
        have J53 : r_answerLine_j53 y1 y5.2 = some (r, h') → V true G p l e { frames := 7, cells := 0, slots := 0, locals := 152 } s m args below meth c 2 (MQ below (QcA true G (some (aI r)) h') args s 0 0 (A_ G)) y5.2 0 0 53 [some (aA 0 (some 0)), some (aA 100 y1)] [] := by
          intro  Ej53
          rw [r_answerLine_j53] at Ej53
          refine v_aload_n C (pc' := 54) dX12_answerLine_53 rfl rfl rfl ?_
          refine v_getF C (pc' := 57) rfl fl_X12_47 rfl rfl (t2 := 12) rfl (j := 0) rfl u0_0 dX12_answerLine_54 rfl ?_
          refine v_getI C (pc' := 60) fl_X12_153 rfl (Or.inl rfl) lv0_12 dX12_answerLine_57 rfl ?_
          have J74 : r_answerLine_j74 y1 y5.2 = some (r, h') → V true G p l e { frames := 7, cells := 0, slots := 0, locals := 152 } s m args below meth c 2 (MQ below (QcA true G (some (aI r)) h') args s 0 0 (A_ G)) y5.2 0 0 74 [some (aA 0 (some 0)), some (aA 100 y1)] [] := by
            intro  Ej74
            rw [r_answerLine_j74] at Ej74
            refine v_aload_n C (pc' := 75) dX12_answerLine_74 rfl rfl rfl ?_
            obtain ⟨x13, hx13, Ej74⟩ := bind_some Ej74
            obtain ⟨hx13, bx13⟩ := nd_some hx13
            refine V.st (st' := [aA 100 (some x13)]) (by rw [hx13]) ?_
            refine v_kArg C (pc' := 78) bx13 (TT_of (i := 1254) (by decide +kernel) (by decide +kernel)) dX12_answerLine_75 rfl ?_
            refine v_iconst C (pc' := 79) dX12_answerLine_78 (v := (2 : Int32)) (by decide) rfl ?_
            have J90 : ∀ (hj90 : Hp), r_answerLine_j90 y1 hj90 = some (r, h') → V true G p l e { frames := 7, cells := 0, slots := 0, locals := 152 } s m args below meth c 2 (MQ below (QcA true G (some (aI r)) h') args s 0 0 (A_ G)) hj90 0 0 90 [some (aA 0 (some 0)), some (aA 100 y1)] [] := by
              intro hj90 Ej90
              rw [r_answerLine_j90] at Ej90
              refine v_aload_n C (pc' := 91) dX12_answerLine_90 rfl rfl rfl ?_
              refine v_getF C (pc' := 94) rfl fl_X12_33 rfl rfl (t2 := 8) rfl (j := 0) rfl u0_0 dX12_answerLine_91 rfl ?_
              refine v_aload_n C (pc' := 95) dX12_answerLine_94 rfl rfl rfl ?_
              refine v_getF C (pc' := 98) rfl fl_X12_19 rfl rfl (t2 := 3) rfl (j := 0) rfl u0_0 dX12_answerLine_95 rfl ?_
              refine v_aload_n C (pc' := 99) dX12_answerLine_98 rfl rfl rfl ?_
              refine v_getR C (pc' := 102) fl_X12_69 rfl rfl (t2 := 5) rfl lv0_0 dX12_answerLine_99 rfl ?_
              refine v_aload_n C (pc' := 103) dX12_answerLine_102 rfl rfl rfl ?_
              refine v_getR C (pc' := 106) fl_X12_73 rfl rfl (t2 := 5) rfl lv0_0 dX12_answerLine_103 rfl ?_
              obtain ⟨y17, hy17, Ej90⟩ := bind_some Ej90
              refine v_callV C (pc' := 109) (rest := []) (c_path_walk l (gR hj90 (0, 0) 10) (gR hj90 (0, 0) 11) hj90 _ hy17) mv_X12_207 rfl rfl lv0_8 dX12_answerLine_106 rfl rfl rfl ⟨Nat.le_of_ble_eq_true rfl, Nat.le_of_ble_eq_true rfl⟩ (Nat.le_of_ble_eq_true rfl) ⟨Nat.le_of_ble_eq_true rfl, Nat.le_of_ble_eq_true rfl⟩ ?_
              refine V.st (st' := []) rfl ?_
              refine v_aload_n C (pc' := 110) dX12_answerLine_109 rfl rfl rfl ?_
              refine v_aload_n C (pc' := 111) dX12_answerLine_110 rfl rfl rfl ?_
              obtain ⟨y18, hy18, Ej90⟩ := bind_some Ej90
              refine v_callV C (pc' := 114) (rest := []) (c_r_runOnPath l y1 y17 _ _ hy18) mv_X12_211 rfl rfl lv0_0 dX12_answerLine_111 rfl rfl rfl ⟨Nat.le_of_ble_eq_true rfl, Nat.le_of_ble_eq_true rfl⟩ (Nat.le_of_ble_eq_true rfl) ⟨Nat.le_of_ble_eq_true rfl, Nat.le_of_ble_eq_true rfl⟩ ?_
              refine V.st (st' := [aI y18.1]) rfl ?_
              cases Ej90
              exact v_reti C hr hlk dX12_answerLine_114
            refine v_icmp_eq C (tg := 90) (pc' := 82) dX12_answerLine_79 (by decide) rfl (fun q14 => ?_) (fun q14 => ?_)
            · rw [if_pos q14] at Ej74
              exact J90 _ Ej74
            · rw [if_neg q14] at Ej74
              refine v_aload_n C (pc' := 83) dX12_answerLine_82 rfl rfl rfl ?_
              refine V.st (st' := [aA 100 (some x13)]) (by rw [hx13]) ?_
              refine v_kArg C (pc' := 86) bx13 (TT_of (i := 1254) (by decide +kernel) (by decide +kernel)) dX12_answerLine_83 rfl ?_
              refine v_iconst C (pc' := 87) dX12_answerLine_86 (v := (3 : Int32)) (by decide) rfl ?_
              refine v_icmp_ne C (tg := 115) (pc' := 90) dX12_answerLine_87 (by decide) rfl (fun q15 => ?_) (fun q15 => ?_)
              · rw [if_neg q15] at Ej74
                refine v_aload_n C (pc' := 116) dX12_answerLine_115 rfl rfl rfl ?_
                refine v_aload_n C (pc' := 117) dX12_answerLine_116 rfl rfl rfl ?_
                obtain ⟨y16, hy16, Ej74⟩ := bind_some Ej74
                refine v_callV C (pc' := 120) (rest := []) (c_r_run l y1 y5.2 _ _ hy16) mv_X12_215 rfl rfl lv0_0 dX12_answerLine_117 rfl rfl rfl ⟨Nat.le_of_ble_eq_true rfl, Nat.le_of_ble_eq_true rfl⟩ (Nat.le_of_ble_eq_true rfl) ⟨Nat.le_of_ble_eq_true rfl, Nat.le_of_ble_eq_true rfl⟩ ?_
                refine V.st (st' := [aI y16.1]) rfl ?_
                cases Ej74
                exact v_reti C hr hlk dX12_answerLine_120
              · rw [if_pos q15] at Ej74
                exact J90 _ Ej74
          refine v_if_eq C (tg := 74) (pc' := 63) dX12_answerLine_60 (by decide) rfl (fun q10 => ?_) (fun q10 => ?_)
          · rw [if_pos q10] at Ej53
            exact J74  Ej53
          · rw [if_neg q10] at Ej53
            refine v_aload_n C (pc' := 64) dX12_answerLine_63 rfl rfl rfl ?_
            obtain ⟨x11, hx11, Ej53⟩ := bind_some Ej53
            obtain ⟨hx11, bx11⟩ := nd_some hx11
            refine V.st (st' := [aA 100 (some x11)]) (by rw [hx11]) ?_
            refine v_kDT C (pc' := 67) bx11 (TT_of (i := 1256) (by decide +kernel) (by decide +kernel)) dX12_answerLine_64 rfl ?_
            refine v_if_ne C (tg := 74) (pc' := 70) dX12_answerLine_67 (by decide) rfl (fun q12 => ?_) (fun q12 => ?_)
            · rw [if_neg q12] at Ej53
              exact J74  Ej53
            · rw [if_pos q12] at Ej53
              refine v_sipush C (pc' := 73) dX12_answerLine_70 (v := (503 : Int32)) (by decide) rfl ?_
              cases Ej53
              exact v_reti C hr hlk dX12_answerLine_73
        refine v_ifnonnull C (tg := 53) (pc' := 42) dX12_answerLine_39 (by decide) rfl (fun q7 => ?_) (fun q7 => ?_)
        · rw [if_neg q7] at E
          exact J53  E
        · rw [if_pos q7] at E
          refine v_aload_n C (pc' := 43) dX12_answerLine_42 rfl rfl rfl ?_
          obtain ⟨x8, hx8, E⟩ := bind_some E
          obtain ⟨hx8, bx8⟩ := nd_some hx8
          refine V.st (st' := [aA 100 (some x8)]) (by rw [hx8]) ?_
          refine v_kWL C (pc' := 46) bx8 (TT_of (i := 1255) (by decide +kernel) (by decide +kernel)) dX12_answerLine_43 rfl ?_
          refine v_if_ne C (tg := 53) (pc' := 49) dX12_answerLine_46 (by decide) rfl (fun q9 => ?_) (fun q9 => ?_)
          · rw [if_neg q9] at E
            exact J53  E
          · rw [if_pos q9] at E
            refine v_sipush C (pc' := 52) dX12_answerLine_49 (v := (530 : Int32)) (by decide) rfl ?_
            cases E
            exact v_reti C hr hlk dX12_answerLine_52
      · rw [if_pos q6] at E
        refine v_sipush C (pc' := 34) dX12_answerLine_31 (v := (501 : Int32)) (by decide) rfl ?_
        cases E
        exact v_reti C hr hlk dX12_answerLine_34
    · rw [if_neg q4] at E
      refine v_sipush C (pc' := 22) dX12_answerLine_19 (v := (500 : Int32)) (by decide) rfl ?_
      cases E
      exact v_reti C hr hlk dX12_answerLine_22

def r_bytes  (h : Hp) : Option Int32 :=
  (tree_countBytes h).bind fun y1 =>
  some y1
set_option maxHeartbeats 2000000 in
set_option maxRecDepth 20000 in
theorem c_r_bytes (l : Launch)  (h : Hp) (r : Int32)  (E : r_bytes  h = some r) : Ctr l yX12_bytes cX12_bytes 1 (some .int) 1 25 0 0 true [aA 0 (some 0)] h (some (aI r)) h := by
  rw [r_bytes] at E
  refine Ctr.of (ls0 := [some (aA 0 (some 0))]) (by decide +kernel) (Nat.le_of_ble_eq_true rfl) rfl ?_
  intro G p e s m args below meth c C hr hlk hnm
  refine v_aload_n C (pc' := 1) dX12_bytes_0 rfl rfl rfl ?_
  refine v_getF C (pc' := 4) rfl fl_X12_19 rfl rfl (t2 := 3) rfl (j := 0) rfl u0_0 dX12_bytes_1 rfl ?_
  obtain ⟨y1, hy1, E⟩ := bind_some E
  refine v_callV C (pc' := 7) (rest := []) (c_tree_countBytes l h _ hy1) mv_X12_173 rfl rfl lv0_3 dX12_bytes_4 rfl rfl rfl ⟨Nat.le_of_ble_eq_true rfl, Nat.le_of_ble_eq_true rfl⟩ (Nat.le_of_ble_eq_true rfl) ⟨Nat.le_of_ble_eq_true rfl, Nat.le_of_ble_eq_true rfl⟩ ?_
  refine V.st (st' := [aI y1]) rfl ?_
  cases E
  exact v_reti C hr hlk dX12_bytes_7

def cargo_leaveOutReturns_l12 (v1 : Int32) : Int32 × Hp → Option ((Int32 × Hp) ⊕ (Int32 × Hp))
  | (a2, h) =>
    if v1 ≤ a2 then
      some (.inl (a2, h))
    else
      if (192 : Int32) ≤ a2 then
        some (.inl (a2, h))
      else
        (if v1 ≤ (a2 + (1 : Int32)) then
          some (0 : Int32)
        else
          if (192 : Int32) ≤ (a2 + (1 : Int32)) then
            some (0 : Int32)
          else
            guardB (a2 + (1 : Int32)) 192 <|
            if (gI h (13, 0) (a2 + (1 : Int32)).toNatClampNeg) = (10 : Int32) then
              some (1 : Int32)
            else
              some (0 : Int32)).bind fun t4 =>
        guardB a2 192 <|
        (if (gI h (13, 0) a2.toNatClampNeg) = (13 : Int32) then
          if t4 = 0 then
            guardB a2 192 <|
            (cargo_add (gI h (13, 0) a2.toNatClampNeg) h).bind fun y15 =>
            some y15
          else
            some h
        else
          guardB a2 192 <|
          (cargo_add (gI h (13, 0) a2.toNatClampNeg) h).bind fun y12 =>
          some y12).bind fun t10 =>
        some (.inr ((a2 + (1 : Int32)), t10))
def cargo_leaveOutReturns  (h : Hp) : Option Hp :=
  (iter (cargo_leaveOutReturns_l12 (gI h (12, 0) 2)) FU ((0 : Int32), (sI h (12, 0) 2 (0 : Int32)))).bind fun t16 =>
  some t16.2
set_option maxHeartbeats 2000000 in
set_option maxRecDepth 20000 in
theorem c_cargo_leaveOutReturns (l : Launch)  (h : Hp) (h' : Hp)  (E : cargo_leaveOutReturns  h = some h') : Ctr l yX2_leaveOutReturns cX2_leaveOutReturns 4 none 1 21 0 0 true [aA 12 (some 0)] h none h' := by
  rw [cargo_leaveOutReturns] at E
  refine Ctr.of (ls0 := [some (aA 12 (some 0)), none, none, none]) (by decide +kernel) (Nat.le_of_ble_eq_true rfl) rfl ?_
  intro G p e s m args below meth c C hr hlk hnm
  refine v_aload_n C (pc' := 1) dX2_leaveOutReturns_0 rfl rfl rfl ?_
  refine v_getI C (pc' := 4) fl_X2_23 rfl (Or.inl rfl) lv0_12 dX2_leaveOutReturns_1 rfl ?_
  refine v_istore1 C (pc' := 5) dX2_leaveOutReturns_4 (by decide) rfl rfl ?_
  refine v_aload_n C (pc' := 6) dX2_leaveOutReturns_5 rfl rfl rfl ?_
  refine v_iconst C (pc' := 7) dX2_leaveOutReturns_6 (v := (0 : Int32)) (by decide) rfl ?_
  refine v_putI C (pc' := 10) fp_X2_23 rfl rfl lv0_12 dX2_leaveOutReturns_7 rfl ?_
  refine v_iconst C (pc' := 11) dX2_leaveOutReturns_10 (v := (0 : Int32)) (by decide) rfl ?_
  refine v_istore2 C (pc' := 12) dX2_leaveOutReturns_11 (by decide) rfl rfl ?_
  obtain ⟨t1, It1, E⟩ := bind_some E
  have Kt1 : V true G p l e { frames := 1, cells := 0, slots := 0, locals := 21 } s m args below meth c 4 (MQ below (QcA true G none h') args s 0 0 (A_ G)) t1.2 0 0 94 [some (aA 12 (some 0)), some (aI (gI h (12, 0) 2)), some (aI t1.1), none] [] := by
    cases E
    exact v_retv C hr hlk dX2_leaveOutReturns_94
  refine iter_V (P := fun st1 : Int32 × Hp => V true G p l e { frames := 1, cells := 0, slots := 0, locals := 21 } s m args below meth c 4 (MQ below (QcA true G none h') args s 0 0 (A_ G)) st1.2 0 0 12 [some (aA 12 (some 0)), some (aI (gI h (12, 0) 2)), some (aI st1.1), none] []) ?_ _ _ It1
  rintro ⟨a2t1, ht1⟩ ot1 Lt1 kxt1 kst1
  rw [cargo_leaveOutReturns_l12] at Lt1
  show V true G p l e { frames := 1, cells := 0, slots := 0, locals := 21 } s m args below meth c 4 (MQ below (QcA true G none h') args s 0 0 (A_ G)) ht1 0 0 12 [some (aA 12 (some 0)), some (aI (gI h (12, 0) 2)), some (aI a2t1), none] []
  refine v_iload_n C (pc' := 13) dX2_leaveOutReturns_12 rfl rfl rfl ?_
  refine v_iload_n C (pc' := 14) dX2_leaveOutReturns_13 rfl rfl rfl ?_
  refine v_icmp_ge C (tg := 94) (pc' := 17) dX2_leaveOutReturns_14 (by decide) rfl (fun q2 => ?_) (fun q2 => ?_)
  · rw [if_pos q2] at Lt1
    cases Lt1
    have z := kxt1 _ rfl
    subst z
    exact Kt1
  · rw [if_neg q2] at Lt1
    refine v_iload_n C (pc' := 18) dX2_leaveOutReturns_17 rfl rfl rfl ?_
    refine v_aload_n C (pc' := 19) dX2_leaveOutReturns_18 rfl rfl rfl ?_
    refine v_getF C (pc' := 22) rfl fl_X2_13 rfl rfl (t2 := 13) rfl (j := 0) rfl u0_12 dX2_leaveOutReturns_19 rfl ?_
    refine v_alen C (pc' := 23) (t := 13) rfl (by decide) lv0_13 (v := (192 : Int32)) (by decide) dX2_leaveOutReturns_22 rfl ?_
    refine v_icmp_ge C (tg := 94) (pc' := 26) dX2_leaveOutReturns_23 (by decide) rfl (fun q3 => ?_) (fun q3 => ?_)
    · rw [if_pos q3] at Lt1
      cases Lt1
      have z := kxt1 _ rfl
      subst z
      exact Kt1
    · rw [if_neg q3] at Lt1
      refine v_iload_n C (pc' := 27) dX2_leaveOutReturns_26 rfl rfl rfl ?_
      refine v_iconst C (pc' := 28) dX2_leaveOutReturns_27 (v := (1 : Int32)) (by decide) rfl ?_
      refine v_iadd C (pc' := 29) dX2_leaveOutReturns_28 rfl ?_
      refine v_iload_n C (pc' := 30) dX2_leaveOutReturns_29 rfl rfl rfl ?_
      obtain ⟨t5, At5, Lt1⟩ := bind_some Lt1
      have Kt5 : V true G p l e { frames := 1, cells := 0, slots := 0, locals := 21 } s m args below meth c 4 (MQ below (QcA true G none h') args s 0 0 (A_ G)) ht1 0 0 62 [some (aA 12 (some 0)), some (aI (gI h (12, 0) 2)), some (aI a2t1), none] [aI t5] := by
        refine v_istore3 C (pc' := 63) dX2_leaveOutReturns_62 (by decide) rfl rfl ?_
        refine v_aload_n C (pc' := 64) dX2_leaveOutReturns_63 rfl rfl rfl ?_
        refine v_getF C (pc' := 67) rfl fl_X2_13 rfl rfl (t2 := 13) rfl (j := 0) rfl u0_12 dX2_leaveOutReturns_64 rfl ?_
        refine v_iload_n C (pc' := 68) dX2_leaveOutReturns_67 rfl rfl rfl ?_
        obtain ⟨g9, Lt1⟩ := guardB_some Lt1
        refine v_iald C (pc' := 69) (t := 13) rfl lv0_13 g9 dX2_leaveOutReturns_68 rfl ?_
        refine v_bipush C (pc' := 71) dX2_leaveOutReturns_69 (v := (13 : Int32)) (by decide) rfl ?_
        obtain ⟨t11, At11, Lt1⟩ := bind_some Lt1
        have Kt11 : V true G p l e { frames := 1, cells := 0, slots := 0, locals := 21 } s m args below meth c 4 (MQ below (QcA true G none h') args s 0 0 (A_ G)) t11 0 0 88 [some (aA 12 (some 0)), some (aI (gI h (12, 0) 2)), some (aI a2t1), some (aI t5)] [] := by
          refine v_iinc2 C (pc' := 91) dX2_leaveOutReturns_88 (v := (a2t1 + (1 : Int32))) (by rw [show Int32.ofInt 1 = (1 : Int32) by decide]) (by decide) rfl rfl ?_
          refine v_goto C (pc' := 12) dX2_leaveOutReturns_91 (by decide) ?_
          cases Lt1
          exact V.ls (ms := [true, true, true, false]) rfl (kst1 _ rfl)
        refine v_icmp_ne C (tg := 78) (pc' := 74) dX2_leaveOutReturns_71 (by decide) rfl (fun q10 => ?_) (fun q10 => ?_)
        · rw [if_neg q10] at At11
          refine v_aload_n C (pc' := 79) dX2_leaveOutReturns_78 rfl rfl rfl ?_
          refine v_aload_n C (pc' := 80) dX2_leaveOutReturns_79 rfl rfl rfl ?_
          refine v_getF C (pc' := 83) rfl fl_X2_13 rfl rfl (t2 := 13) rfl (j := 0) rfl u0_12 dX2_leaveOutReturns_80 rfl ?_
          refine v_iload_n C (pc' := 84) dX2_leaveOutReturns_83 rfl rfl rfl ?_
          obtain ⟨g12, At11⟩ := guardB_some At11
          refine v_iald C (pc' := 85) (t := 13) rfl lv0_13 g12 dX2_leaveOutReturns_84 rfl ?_
          obtain ⟨y13, hy13, At11⟩ := bind_some At11
          refine v_callV C (pc' := 88) (rest := []) (c_cargo_add l (gI ht1 (13, 0) a2t1.toNatClampNeg) ht1 _ hy13) mv_X2_52 rfl rfl lv0_12 dX2_leaveOutReturns_85 rfl rfl rfl ⟨Nat.le_of_ble_eq_true rfl, Nat.le_of_ble_eq_true rfl⟩ (Nat.le_of_ble_eq_true rfl) ⟨Nat.le_of_ble_eq_true rfl, Nat.le_of_ble_eq_true rfl⟩ ?_
          refine V.st (st' := []) rfl ?_
          cases At11
          exact Kt11
        · rw [if_pos q10] at At11
          refine v_iload_n C (pc' := 75) dX2_leaveOutReturns_74 rfl rfl rfl ?_
          refine v_if_ne C (tg := 88) (pc' := 78) dX2_leaveOutReturns_75 (by decide) rfl (fun q14 => ?_) (fun q14 => ?_)
          · rw [if_neg q14] at At11
            cases At11
            exact Kt11
          · rw [if_pos q14] at At11
            refine v_aload_n C (pc' := 79) dX2_leaveOutReturns_78 rfl rfl rfl ?_
            refine v_aload_n C (pc' := 80) dX2_leaveOutReturns_79 rfl rfl rfl ?_
            refine v_getF C (pc' := 83) rfl fl_X2_13 rfl rfl (t2 := 13) rfl (j := 0) rfl u0_12 dX2_leaveOutReturns_80 rfl ?_
            refine v_iload_n C (pc' := 84) dX2_leaveOutReturns_83 rfl rfl rfl ?_
            obtain ⟨g15, At11⟩ := guardB_some At11
            refine v_iald C (pc' := 85) (t := 13) rfl lv0_13 g15 dX2_leaveOutReturns_84 rfl ?_
            obtain ⟨y16, hy16, At11⟩ := bind_some At11
            refine v_callV C (pc' := 88) (rest := []) (c_cargo_add l (gI ht1 (13, 0) a2t1.toNatClampNeg) ht1 _ hy16) mv_X2_52 rfl rfl lv0_12 dX2_leaveOutReturns_85 rfl rfl rfl ⟨Nat.le_of_ble_eq_true rfl, Nat.le_of_ble_eq_true rfl⟩ (Nat.le_of_ble_eq_true rfl) ⟨Nat.le_of_ble_eq_true rfl, Nat.le_of_ble_eq_true rfl⟩ ?_
            refine V.st (st' := []) rfl ?_
            cases At11
            exact Kt11
      refine v_icmp_ge C (tg := 61) (pc' := 33) dX2_leaveOutReturns_30 (by decide) rfl (fun q4 => ?_) (fun q4 => ?_)
      · rw [if_pos q4] at At5
        refine v_iconst C (pc' := 62) dX2_leaveOutReturns_61 (v := (0 : Int32)) (by decide) rfl ?_
        cases At5
        exact Kt5
      · rw [if_neg q4] at At5
        refine v_iload_n C (pc' := 34) dX2_leaveOutReturns_33 rfl rfl rfl ?_
        refine v_iconst C (pc' := 35) dX2_leaveOutReturns_34 (v := (1 : Int32)) (by decide) rfl ?_
        refine v_iadd C (pc' := 36) dX2_leaveOutReturns_35 rfl ?_
        refine v_aload_n C (pc' := 37) dX2_leaveOutReturns_36 rfl rfl rfl ?_
        refine v_getF C (pc' := 40) rfl fl_X2_13 rfl rfl (t2 := 13) rfl (j := 0) rfl u0_12 dX2_leaveOutReturns_37 rfl ?_
        refine v_alen C (pc' := 41) (t := 13) rfl (by decide) lv0_13 (v := (192 : Int32)) (by decide) dX2_leaveOutReturns_40 rfl ?_
        refine v_icmp_ge C (tg := 61) (pc' := 44) dX2_leaveOutReturns_41 (by decide) rfl (fun q6 => ?_) (fun q6 => ?_)
        · rw [if_pos q6] at At5
          refine v_iconst C (pc' := 62) dX2_leaveOutReturns_61 (v := (0 : Int32)) (by decide) rfl ?_
          cases At5
          exact Kt5
        · rw [if_neg q6] at At5
          refine v_aload_n C (pc' := 45) dX2_leaveOutReturns_44 rfl rfl rfl ?_
          refine v_getF C (pc' := 48) rfl fl_X2_13 rfl rfl (t2 := 13) rfl (j := 0) rfl u0_12 dX2_leaveOutReturns_45 rfl ?_
          refine v_iload_n C (pc' := 49) dX2_leaveOutReturns_48 rfl rfl rfl ?_
          refine v_iconst C (pc' := 50) dX2_leaveOutReturns_49 (v := (1 : Int32)) (by decide) rfl ?_
          refine v_iadd C (pc' := 51) dX2_leaveOutReturns_50 rfl ?_
          obtain ⟨g7, At5⟩ := guardB_some At5
          refine v_iald C (pc' := 52) (t := 13) rfl lv0_13 g7 dX2_leaveOutReturns_51 rfl ?_
          refine v_bipush C (pc' := 54) dX2_leaveOutReturns_52 (v := (10 : Int32)) (by decide) rfl ?_
          refine v_icmp_ne C (tg := 61) (pc' := 57) dX2_leaveOutReturns_54 (by decide) rfl (fun q8 => ?_) (fun q8 => ?_)
          · rw [if_neg q8] at At5
            refine v_iconst C (pc' := 62) dX2_leaveOutReturns_61 (v := (0 : Int32)) (by decide) rfl ?_
            cases At5
            exact Kt5
          · rw [if_pos q8] at At5
            refine v_iconst C (pc' := 58) dX2_leaveOutReturns_57 (v := (1 : Int32)) (by decide) rfl ?_
            refine v_goto C (pc' := 62) dX2_leaveOutReturns_58 (by decide) ?_
            cases At5
            exact Kt5

def r_storeCargo  (h : Hp) : Option (Int32 × Hp) :=
  (if (gI h (0, 0) 12) = 0 then
    (cargo_leaveOutReturns h).bind fun y3 =>
    some y3
  else
    some h).bind fun t2 =>
  (if (gR t2 (12, 0) 4) = none then
    some (0 : Int32)
  else
    (nd 24 (gR t2 (12, 0) 4)).bind fun x6 =>
    some (gI t2 (5, x6) 1)).bind fun t5 =>
  (if (gI t2 (12, 0) 7) = 0 then
    some (0 : Int32)
  else
    some t5).bind fun t8 =>
  if (32 : Int32) < (t8 + (gI t2 (12, 0) 2)) then
    some ((0 : Int32), t2)
  else
    (tree_countBytes t2).bind fun y10 =>
    if ((y10 - t5) + (t8 + (gI t2 (12, 0) 2))) ≤ (200 : Int32) then
      (if (gR t2 (12, 0) 4) = none then
        (tree_add (gR t2 (12, 0) 5) (gL t2 (12, 0) 6) (0 : Int32) t2).bind fun y14 =>
        some (y14.1, y14.2)
      else
        some ((gR t2 (12, 0) 4), t2)).bind fun t13 =>
      if t13.1 = none then
        some ((0 : Int32), t13.2)
      else
        (nd 24 t13.1).bind fun x16 =>
        guardA (0 : Int32) 192 t8 32 (gI t13.2 (12, 0) 2) <|
        some ((1 : Int32), (sI (cpI t13.2 (13, 0) (6, x16) (0 : Int32).toNatClampNeg t8.toNatClampNeg (gI t13.2 (12, 0) 2).toNatClampNeg) (5, x16) 1 (t8 + (gI t2 (12, 0) 2))))
    else
      some ((0 : Int32), t2)
set_option maxHeartbeats 2000000 in
set_option maxRecDepth 20000 in
theorem c_r_storeCargo (l : Launch)  (h : Hp) (r : Int32) (h' : Hp)  (E : r_storeCargo  h = some (r, h')) : Ctr l yX12_storeCargo cX12_storeCargo 5 (some .boolean) 2 60 0 0 true [aA 0 (some 0)] h (some (aI r)) h' := by
  rw [r_storeCargo] at E
  refine Ctr.of (ls0 := [some (aA 0 (some 0)), none, none, none, none]) (by decide +kernel) (Nat.le_of_ble_eq_true rfl) rfl ?_
  intro G p e s m args below meth c C hr hlk hnm
  refine v_aload_n C (pc' := 1) dX12_storeCargo_0 rfl rfl rfl ?_
  refine v_getI C (pc' := 4) fl_X12_76 rfl (Or.inr rfl) lv0_0 dX12_storeCargo_1 rfl ?_
  obtain ⟨t2, At2, E⟩ := bind_some E
  have Kt2 : V true G p l e { frames := 2, cells := 0, slots := 0, locals := 60 } s m args below meth c 5 (MQ below (QcA true G (some (aI r)) h') args s 0 0 (A_ G)) t2 0 0 14 [some (aA 0 (some 0)), none, none, none, none] [] := by
    refine v_aload_n C (pc' := 15) dX12_storeCargo_14 rfl rfl rfl ?_
    refine v_getF C (pc' := 18) rfl fl_X12_47 rfl rfl (t2 := 12) rfl (j := 0) rfl u0_0 dX12_storeCargo_15 rfl ?_
    refine v_getR C (pc' := 21) fl_X12_401 rfl rfl (t2 := 5) rfl lv0_12 dX12_storeCargo_18 rfl ?_
    obtain ⟨t5, At5, E⟩ := bind_some E
    have Kt5 : V true G p l e { frames := 2, cells := 0, slots := 0, locals := 60 } s m args below meth c 5 (MQ below (QcA true G (some (aI r)) h') args s 0 0 (A_ G)) t2 0 0 38 [some (aA 0 (some 0)), none, none, none, none] [aI t5] := by
      refine v_istore1 C (pc' := 39) dX12_storeCargo_38 (by decide) rfl rfl ?_
      refine v_aload_n C (pc' := 40) dX12_storeCargo_39 rfl rfl rfl ?_
      refine v_getF C (pc' := 43) rfl fl_X12_47 rfl rfl (t2 := 12) rfl (j := 0) rfl u0_0 dX12_storeCargo_40 rfl ?_
      refine v_getI C (pc' := 46) fl_X12_404 rfl (Or.inr rfl) lv0_12 dX12_storeCargo_43 rfl ?_
      obtain ⟨t8, At8, E⟩ := bind_some E
      have Kt8 : V true G p l e { frames := 2, cells := 0, slots := 0, locals := 60 } s m args below meth c 5 (MQ below (QcA true G (some (aI r)) h') args s 0 0 (A_ G)) t2 0 0 54 [some (aA 0 (some 0)), some (aI t5), none, none, none] [aI t8] := by
        refine v_istore2 C (pc' := 55) dX12_storeCargo_54 (by decide) rfl rfl ?_
        refine v_iload_n C (pc' := 56) dX12_storeCargo_55 rfl rfl rfl ?_
        refine v_aload_n C (pc' := 57) dX12_storeCargo_56 rfl rfl rfl ?_
        refine v_getF C (pc' := 60) rfl fl_X12_47 rfl rfl (t2 := 12) rfl (j := 0) rfl u0_0 dX12_storeCargo_57 rfl ?_
        refine v_getI C (pc' := 63) fl_X12_407 rfl (Or.inl rfl) lv0_12 dX12_storeCargo_60 rfl ?_
        refine v_iadd C (pc' := 64) dX12_storeCargo_63 rfl ?_
        refine v_istore3 C (pc' := 65) dX12_storeCargo_64 (by decide) rfl rfl ?_
        refine v_iload_n C (pc' := 66) dX12_storeCargo_65 rfl rfl rfl ?_
        refine v_bipush C (pc' := 68) dX12_storeCargo_66 (v := (32 : Int32)) (by decide) rfl ?_
        refine v_icmp_gt C (tg := 88) (pc' := 71) dX12_storeCargo_68 (by decide) rfl (fun q9 => ?_) (fun q9 => ?_)
        · rw [if_pos q9] at E
          refine v_iconst C (pc' := 89) dX12_storeCargo_88 (v := (0 : Int32)) (by decide) rfl ?_
          cases E
          exact v_retz C hr hlk (Or.inl rfl) dX12_storeCargo_89
        · rw [if_neg q9] at E
          refine v_aload_n C (pc' := 72) dX12_storeCargo_71 rfl rfl rfl ?_
          refine v_getF C (pc' := 75) rfl fl_X12_19 rfl rfl (t2 := 3) rfl (j := 0) rfl u0_0 dX12_storeCargo_72 rfl ?_
          obtain ⟨y10, hy10, E⟩ := bind_some E
          refine v_callV C (pc' := 78) (rest := []) (c_tree_countBytes l t2 _ hy10) mv_X12_173 rfl rfl lv0_3 dX12_storeCargo_75 rfl rfl rfl ⟨Nat.le_of_ble_eq_true rfl, Nat.le_of_ble_eq_true rfl⟩ (Nat.le_of_ble_eq_true rfl) ⟨Nat.le_of_ble_eq_true rfl, Nat.le_of_ble_eq_true rfl⟩ ?_
          refine V.st (st' := [aI y10]) rfl ?_
          refine v_iload_n C (pc' := 79) dX12_storeCargo_78 rfl rfl rfl ?_
          refine v_isub C (pc' := 80) dX12_storeCargo_79 rfl ?_
          refine v_iload_n C (pc' := 81) dX12_storeCargo_80 rfl rfl rfl ?_
          refine v_iadd C (pc' := 82) dX12_storeCargo_81 rfl ?_
          refine v_sipush C (pc' := 85) dX12_storeCargo_82 (v := (200 : Int32)) (by decide) rfl ?_
          refine v_icmp_le C (tg := 90) (pc' := 88) dX12_storeCargo_85 (by decide) rfl (fun q11 => ?_) (fun q11 => ?_)
          · rw [if_pos q11] at E
            refine v_aload_n C (pc' := 91) dX12_storeCargo_90 rfl rfl rfl ?_
            refine v_getF C (pc' := 94) rfl fl_X12_47 rfl rfl (t2 := 12) rfl (j := 0) rfl u0_0 dX12_storeCargo_91 rfl ?_
            refine v_getR C (pc' := 97) fl_X12_401 rfl rfl (t2 := 5) rfl lv0_12 dX12_storeCargo_94 rfl ?_
            obtain ⟨t13, At13, E⟩ := bind_some E
            have Kt13 : V true G p l e { frames := 2, cells := 0, slots := 0, locals := 60 } s m args below meth c 5 (MQ below (QcA true G (some (aI r)) h') args s 0 0 (A_ G)) t13.2 0 0 132 [some (aA 0 (some 0)), some (aI t5), some (aI t8), some (aI (t8 + (gI t2 (12, 0) 2))), none] [aA 5 t13.1] := by
              refine v_astore4 C (pc' := 134) dX12_storeCargo_132 (by decide) rfl rfl ?_
              refine v_aload C (pc' := 136) dX12_storeCargo_134 rfl rfl ?_
              refine v_ifnonnull C (tg := 141) (pc' := 139) dX12_storeCargo_136 (by decide) rfl (fun q15 => ?_) (fun q15 => ?_)
              · rw [if_neg q15] at E
                refine v_aload_n C (pc' := 142) dX12_storeCargo_141 rfl rfl rfl ?_
                refine v_getF C (pc' := 145) rfl fl_X12_47 rfl rfl (t2 := 12) rfl (j := 0) rfl u0_0 dX12_storeCargo_142 rfl ?_
                refine v_getF C (pc' := 148) rfl fl_X12_413 rfl rfl (t2 := 13) rfl (j := 0) rfl u0_12 dX12_storeCargo_145 rfl ?_
                refine v_iconst C (pc' := 149) dX12_storeCargo_148 (v := (0 : Int32)) (by decide) rfl ?_
                refine v_aload C (pc' := 151) dX12_storeCargo_149 rfl rfl ?_
                obtain ⟨x16, hx16, E⟩ := bind_some E
                obtain ⟨hx16, bx16⟩ := nd_some hx16
                refine V.st (st' := [aA 5 (some x16), aI (0 : Int32), aA 13 (some 0)]) (by rw [hx16]) ?_
                refine v_getF C (pc' := 154) rfl fl_X12_416 rfl rfl (t2 := 6) rfl (j := x16) rfl (unp_nd bx16) dX12_storeCargo_151 rfl ?_
                refine v_iload_n C (pc' := 155) dX12_storeCargo_154 rfl rfl rfl ?_
                refine v_aload_n C (pc' := 156) dX12_storeCargo_155 rfl rfl rfl ?_
                refine v_getF C (pc' := 159) rfl fl_X12_47 rfl rfl (t2 := 12) rfl (j := 0) rfl u0_0 dX12_storeCargo_156 rfl ?_
                refine v_getI C (pc' := 162) fl_X12_407 rfl (Or.inl rfl) lv0_12 dX12_storeCargo_159 rfl ?_
                obtain ⟨g17, E⟩ := guardA_some E
                refine v_acopy C (pc' := 165) rfl rfl (by decide) g17 lv0_13 (lvq_nc bx16) (TT_of (i := 884) (by decide +kernel) (by decide +kernel)) dX12_storeCargo_162 rfl (Nat.le_of_ble_eq_true rfl) (Nat.le_of_ble_eq_true rfl) ?_
                refine v_aload C (pc' := 167) dX12_storeCargo_165 rfl rfl ?_
                refine v_iload_n C (pc' := 168) dX12_storeCargo_167 rfl rfl rfl ?_
                refine V.st (st' := [aI (t8 + (gI t2 (12, 0) 2)), aA 5 (some x16)]) (by rw [hx16]) ?_
                refine v_putI C (pc' := 171) fp_X12_348 rfl rfl (lvq_nd bx16) dX12_storeCargo_168 rfl ?_
                refine v_iconst C (pc' := 172) dX12_storeCargo_171 (v := (1 : Int32)) (by decide) rfl ?_
                cases E
                exact v_retz C hr hlk (Or.inr rfl) dX12_storeCargo_172
              · rw [if_pos q15] at E
                refine v_iconst C (pc' := 140) dX12_storeCargo_139 (v := (0 : Int32)) (by decide) rfl ?_
                cases E
                exact v_retz C hr hlk (Or.inl rfl) dX12_storeCargo_140
            refine v_ifnonnull C (tg := 125) (pc' := 100) dX12_storeCargo_97 (by decide) rfl (fun q12 => ?_) (fun q12 => ?_)
            · rw [if_neg q12] at At13
              refine v_aload_n C (pc' := 126) dX12_storeCargo_125 rfl rfl rfl ?_
              refine v_getF C (pc' := 129) rfl fl_X12_47 rfl rfl (t2 := 12) rfl (j := 0) rfl u0_0 dX12_storeCargo_126 rfl ?_
              refine v_getR C (pc' := 132) fl_X12_401 rfl rfl (t2 := 5) rfl lv0_12 dX12_storeCargo_129 rfl ?_
              cases At13
              exact Kt13
            · rw [if_pos q12] at At13
              refine v_aload_n C (pc' := 101) dX12_storeCargo_100 rfl rfl rfl ?_
              refine v_getF C (pc' := 104) rfl fl_X12_19 rfl rfl (t2 := 3) rfl (j := 0) rfl u0_0 dX12_storeCargo_101 rfl ?_
              refine v_aload_n C (pc' := 105) dX12_storeCargo_104 rfl rfl rfl ?_
              refine v_getF C (pc' := 108) rfl fl_X12_47 rfl rfl (t2 := 12) rfl (j := 0) rfl u0_0 dX12_storeCargo_105 rfl ?_
              refine v_getR C (pc' := 111) fl_X12_410 rfl rfl (t2 := 5) rfl lv0_12 dX12_storeCargo_108 rfl ?_
              refine v_aload_n C (pc' := 112) dX12_storeCargo_111 rfl rfl rfl ?_
              refine v_getF C (pc' := 115) rfl fl_X12_47 rfl rfl (t2 := 12) rfl (j := 0) rfl u0_0 dX12_storeCargo_112 rfl ?_
              refine v_getL C (pc' := 118) fl_X12_412 rfl rfl lv0_12 dX12_storeCargo_115 rfl ?_
              refine v_iconst C (pc' := 119) dX12_storeCargo_118 (v := (0 : Int32)) (by decide) rfl ?_
              obtain ⟨y14, hy14, At13⟩ := bind_some At13
              refine v_callV C (pc' := 122) (rest := []) (c_tree_add l (gR t2 (12, 0) 5) (gL t2 (12, 0) 6) (0 : Int32) t2 _ _ hy14) mv_X12_111 rfl rfl lv0_3 dX12_storeCargo_119 rfl rfl rfl ⟨Nat.le_of_ble_eq_true rfl, Nat.le_of_ble_eq_true rfl⟩ (Nat.le_of_ble_eq_true rfl) ⟨Nat.le_of_ble_eq_true rfl, Nat.le_of_ble_eq_true rfl⟩ ?_
              refine V.st (st' := [aA 5 y14.1]) rfl ?_
              refine v_goto C (pc' := 132) dX12_storeCargo_122 (by decide) ?_
              cases At13
              exact Kt13
          · rw [if_neg q11] at E
            refine v_iconst C (pc' := 89) dX12_storeCargo_88 (v := (0 : Int32)) (by decide) rfl ?_
            cases E
            exact v_retz C hr hlk (Or.inl rfl) dX12_storeCargo_89
      refine v_if_eq C (tg := 53) (pc' := 49) dX12_storeCargo_46 (by decide) rfl (fun q7 => ?_) (fun q7 => ?_)
      · rw [if_pos q7] at At8
        refine v_iconst C (pc' := 54) dX12_storeCargo_53 (v := (0 : Int32)) (by decide) rfl ?_
        cases At8
        exact Kt8
      · rw [if_neg q7] at At8
        refine v_iload_n C (pc' := 50) dX12_storeCargo_49 rfl rfl rfl ?_
        refine v_goto C (pc' := 54) dX12_storeCargo_50 (by decide) ?_
        cases At8
        exact Kt8
    refine v_ifnonnull C (tg := 28) (pc' := 24) dX12_storeCargo_21 (by decide) rfl (fun q4 => ?_) (fun q4 => ?_)
    · rw [if_neg q4] at At5
      refine v_aload_n C (pc' := 29) dX12_storeCargo_28 rfl rfl rfl ?_
      refine v_getF C (pc' := 32) rfl fl_X12_47 rfl rfl (t2 := 12) rfl (j := 0) rfl u0_0 dX12_storeCargo_29 rfl ?_
      refine v_getR C (pc' := 35) fl_X12_401 rfl rfl (t2 := 5) rfl lv0_12 dX12_storeCargo_32 rfl ?_
      obtain ⟨x6, hx6, At5⟩ := bind_some At5
      obtain ⟨hx6, bx6⟩ := nd_some hx6
      refine V.st (st' := [aA 5 (some x6)]) (by rw [hx6]) ?_
      refine v_getI C (pc' := 38) fl_X12_348 rfl (Or.inl rfl) (lvq_nd bx6) dX12_storeCargo_35 rfl ?_
      cases At5
      exact Kt5
    · rw [if_pos q4] at At5
      refine v_iconst C (pc' := 25) dX12_storeCargo_24 (v := (0 : Int32)) (by decide) rfl ?_
      refine v_goto C (pc' := 38) dX12_storeCargo_25 (by decide) ?_
      cases At5
      exact Kt5
  refine v_if_ne C (tg := 14) (pc' := 7) dX12_storeCargo_4 (by decide) rfl (fun q1 => ?_) (fun q1 => ?_)
  · rw [if_neg q1] at At2
    cases At2
    exact Kt2
  · rw [if_pos q1] at At2
    refine v_aload_n C (pc' := 8) dX12_storeCargo_7 rfl rfl rfl ?_
    refine v_getF C (pc' := 11) rfl fl_X12_47 rfl rfl (t2 := 12) rfl (j := 0) rfl u0_0 dX12_storeCargo_8 rfl ?_
    obtain ⟨y3, hy3, At2⟩ := bind_some At2
    refine v_callV C (pc' := 14) (rest := []) (c_cargo_leaveOutReturns l h _ hy3) mv_X12_398 rfl rfl lv0_12 dX12_storeCargo_11 rfl rfl rfl ⟨Nat.le_of_ble_eq_true rfl, Nat.le_of_ble_eq_true rfl⟩ (Nat.le_of_ble_eq_true rfl) ⟨Nat.le_of_ble_eq_true rfl, Nat.le_of_ble_eq_true rfl⟩ ?_
    refine V.st (st' := []) rfl ?_
    cases At2
    exact Kt2

def r_end  (h : Hp) : Option (Int32 × Hp) :=
  if (gI h (12, 0) 1) = (2 : Int32) then
    (r_storeCargo h).bind fun y2 =>
    (if y2.1 = 0 then
      some (452 : Int32)
    else
      some (226 : Int32)).bind fun t4 =>
    (r_dropTransfer (sI y2.2 (0, 0) 9 t4)).bind fun y5 =>
    some ((gI y5 (0, 0) 9), y5)
  else
    some ((-1 : Int32), h)
set_option maxHeartbeats 2000000 in
set_option maxRecDepth 20000 in
theorem c_r_end (l : Launch)  (h : Hp) (r : Int32) (h' : Hp)  (E : r_end  h = some (r, h')) : Ctr l yX12_end cX12_end 1 (some .int) 3 84 0 0 true [aA 0 (some 0)] h (some (aI r)) h' := by
  rw [r_end] at E
  refine Ctr.of (ls0 := [some (aA 0 (some 0))]) (by decide +kernel) (Nat.le_of_ble_eq_true rfl) rfl ?_
  intro G p e s m args below meth c C hr hlk hnm
  refine v_aload_n C (pc' := 1) dX12_end_0 rfl rfl rfl ?_
  refine v_getF C (pc' := 4) rfl fl_X12_47 rfl rfl (t2 := 12) rfl (j := 0) rfl u0_0 dX12_end_1 rfl ?_
  refine v_getI C (pc' := 7) fl_X12_153 rfl (Or.inl rfl) lv0_12 dX12_end_4 rfl ?_
  refine v_iconst C (pc' := 8) dX12_end_7 (v := (2 : Int32)) (by decide) rfl ?_
  refine v_icmp_eq C (tg := 13) (pc' := 11) dX12_end_8 (by decide) rfl (fun q1 => ?_) (fun q1 => ?_)
  · rw [if_pos q1] at E
    refine v_aload_n C (pc' := 14) dX12_end_13 rfl rfl rfl ?_
    refine v_aload_n C (pc' := 15) dX12_end_14 rfl rfl rfl ?_
    obtain ⟨y2, hy2, E⟩ := bind_some E
    refine v_callV C (pc' := 18) (rest := [aA 0 (some 0)]) (c_r_storeCargo l h _ _ hy2) mv_X12_166 rfl rfl lv0_0 dX12_end_15 rfl rfl rfl ⟨Nat.le_of_ble_eq_true rfl, Nat.le_of_ble_eq_true rfl⟩ (Nat.le_of_ble_eq_true rfl) ⟨Nat.le_of_ble_eq_true rfl, Nat.le_of_ble_eq_true rfl⟩ ?_
    refine V.st (st' := [aI y2.1, aA 0 (some 0)]) rfl ?_
    obtain ⟨t4, At4, E⟩ := bind_some E
    have Kt4 : V true G p l e { frames := 3, cells := 0, slots := 0, locals := 84 } s m args below meth c 1 (MQ below (QcA true G (some (aI r)) h') args s 0 0 (A_ G)) y2.2 0 0 30 [some (aA 0 (some 0))] [aI t4, aA 0 (some 0)] := by
      refine v_putI C (pc' := 33) fp_X12_65 rfl rfl lv0_0 dX12_end_30 rfl ?_
      refine v_aload_n C (pc' := 34) dX12_end_33 rfl rfl rfl ?_
      obtain ⟨y5, hy5, E⟩ := bind_some E
      refine v_callV C (pc' := 37) (rest := []) (c_r_dropTransfer l (sI y2.2 (0, 0) 9 t4) _ hy5) mv_X12_159 rfl rfl lv0_0 dX12_end_34 rfl rfl rfl ⟨Nat.le_of_ble_eq_true rfl, Nat.le_of_ble_eq_true rfl⟩ (Nat.le_of_ble_eq_true rfl) ⟨Nat.le_of_ble_eq_true rfl, Nat.le_of_ble_eq_true rfl⟩ ?_
      refine V.st (st' := []) rfl ?_
      refine v_aload_n C (pc' := 38) dX12_end_37 rfl rfl rfl ?_
      refine v_getI C (pc' := 41) fl_X12_65 rfl (Or.inl rfl) lv0_0 dX12_end_38 rfl ?_
      cases E
      exact v_reti C hr hlk dX12_end_41
    refine v_if_eq C (tg := 27) (pc' := 21) dX12_end_18 (by decide) rfl (fun q3 => ?_) (fun q3 => ?_)
    · rw [if_pos q3] at At4
      refine v_sipush C (pc' := 30) dX12_end_27 (v := (452 : Int32)) (by decide) rfl ?_
      cases At4
      exact Kt4
    · rw [if_neg q3] at At4
      refine v_sipush C (pc' := 24) dX12_end_21 (v := (226 : Int32)) (by decide) rfl ?_
      refine v_goto C (pc' := 30) dX12_end_24 (by decide) ?_
      cases At4
      exact Kt4
  · rw [if_neg q1] at E
    refine v_iconst C (pc' := 12) dX12_end_11 (v := (-1 : Int32)) (by decide) rfl ?_
    cases E
    exact v_reti C hr hlk dX12_end_12

def mem_clear (th : Nat) (h : Hp) : Option Hp :=
  some (sR (sL (sI h (14, th) 0 (0 : Int32)) (14, th) 1 (0 : Int64)) (14, th) 2 none)
set_option maxHeartbeats 2000000 in
set_option maxRecDepth 20000 in
theorem c_mem_clear (l : Launch) (th : Nat) (h : Hp) (h' : Hp) (hth : th < 2) (E : mem_clear th h = some h') : Ctr l yX5_clear cX5_clear 1 none 0 0 0 0 true [aA 14 (some th)] h none h' := by
  rw [mem_clear] at E
  refine Ctr.of (ls0 := [some (aA 14 (some th))]) (by decide +kernel) (Nat.le_of_ble_eq_true rfl) rfl ?_
  intro G p e s m args below meth c C hr hlk hnm
  refine v_aload_n C (pc' := 1) dX5_clear_0 rfl rfl rfl ?_
  refine v_iconst C (pc' := 2) dX5_clear_1 (v := (0 : Int32)) (by decide) rfl ?_
  refine v_putI C (pc' := 5) fp_X5_7 rfl rfl (lvq_me hth) dX5_clear_2 rfl ?_
  refine v_aload_n C (pc' := 6) dX5_clear_5 rfl rfl rfl ?_
  refine v_lconst C (pc' := 7) dX5_clear_6 (v := (0 : Int64)) (by decide) rfl ?_
  refine v_putL C (pc' := 10) fp_X5_15 rfl rfl (lvq_me hth) dX5_clear_7 rfl ?_
  refine v_aload_n C (pc' := 11) dX5_clear_10 rfl rfl rfl ?_
  refine v_null C (pc' := 12) (t := 5) dX5_clear_11 rfl ?_
  refine v_putR C (pc' := 15) fp_X5_19 rfl rfl (lvq_me hth) dX5_clear_12 rfl (t2 := 5) rfl (fun _ => ⟨rfl, by decide⟩) ?_
  cases E
  exact v_retv C hr hlk dX5_clear_15

def mem_takeOver (th : Nat) (p1 : Option Nat) (h : Hp) : Option Hp :=
  (nd 2 p1).bind fun x1 =>
  (mem_clear x1 (sR (sL (sI h (14, th) 0 (gI h (14, x1) 0)) (14, th) 1 (gL (sI h (14, th) 0 (gI h (14, x1) 0)) (14, x1) 1)) (14, th) 2 (gR (sL (sI h (14, th) 0 (gI h (14, x1) 0)) (14, th) 1 (gL (sI h (14, th) 0 (gI h (14, x1) 0)) (14, x1) 1)) (14, x1) 2))).bind fun y2 =>
  some y2
set_option maxHeartbeats 2000000 in
set_option maxRecDepth 20000 in
theorem c_mem_takeOver (l : Launch) (th : Nat) (p1 : Option Nat) (h : Hp) (h' : Hp) (hth : th < 2) (E : mem_takeOver th p1 h = some h') : Ctr l yX5_takeOver cX5_takeOver 2 none 1 20 0 0 true [aA 14 (some th), aA 14 p1] h none h' := by
  rw [mem_takeOver] at E
  refine Ctr.of (ls0 := [some (aA 14 (some th)), some (aA 14 p1)]) (by decide +kernel) (Nat.le_of_ble_eq_true rfl) rfl ?_
  intro G p e s m args below meth c C hr hlk hnm
  refine v_aload_n C (pc' := 1) dX5_takeOver_0 rfl rfl rfl ?_
  refine v_aload_n C (pc' := 2) dX5_takeOver_1 rfl rfl rfl ?_
  obtain ⟨x1, hx1, E⟩ := bind_some E
  obtain ⟨hx1, bx1⟩ := nd_some hx1
  refine V.st (st' := [aA 14 (some x1), aA 14 (some th)]) (by rw [hx1]) ?_
  refine v_getI C (pc' := 5) fl_X5_7 rfl (Or.inl rfl) (lvq_me bx1) dX5_takeOver_2 rfl ?_
  refine v_putI C (pc' := 8) fp_X5_7 rfl rfl (lvq_me hth) dX5_takeOver_5 rfl ?_
  refine v_aload_n C (pc' := 9) dX5_takeOver_8 rfl rfl rfl ?_
  refine v_aload_n C (pc' := 10) dX5_takeOver_9 rfl rfl rfl ?_
  refine V.st (st' := [aA 14 (some x1), aA 14 (some th)]) (by rw [hx1]) ?_
  refine v_getL C (pc' := 13) fl_X5_15 rfl rfl (lvq_me bx1) dX5_takeOver_10 rfl ?_
  refine v_putL C (pc' := 16) fp_X5_15 rfl rfl (lvq_me hth) dX5_takeOver_13 rfl ?_
  refine v_aload_n C (pc' := 17) dX5_takeOver_16 rfl rfl rfl ?_
  refine v_aload_n C (pc' := 18) dX5_takeOver_17 rfl rfl rfl ?_
  refine V.st (st' := [aA 14 (some x1), aA 14 (some th)]) (by rw [hx1]) ?_
  refine v_getR C (pc' := 21) fl_X5_19 rfl rfl (t2 := 5) rfl (lvq_me bx1) dX5_takeOver_18 rfl ?_
  refine v_putR C (pc' := 24) fp_X5_19 rfl rfl (lvq_me hth) dX5_takeOver_21 rfl (t2 := 5) rfl (fun _ => ⟨rfl, by decide⟩) ?_
  refine v_aload_n C (pc' := 25) dX5_takeOver_24 rfl rfl rfl ?_
  refine V.st (st' := [aA 14 (some x1)]) (by rw [hx1]) ?_
  obtain ⟨y2, hy2, E⟩ := bind_some E
  refine v_callV C (pc' := 28) (rest := []) (c_mem_clear l x1 (sR (sL (sI h (14, th) 0 (gI h (14, x1) 0)) (14, th) 1 (gL (sI h (14, th) 0 (gI h (14, x1) 0)) (14, x1) 1)) (14, th) 2 (gR (sL (sI h (14, th) 0 (gI h (14, x1) 0)) (14, th) 1 (gL (sI h (14, th) 0 (gI h (14, x1) 0)) (14, x1) 1)) (14, x1) 2)) _ bx1 hy2) mv_X5_23 rfl rfl (lvq_me bx1) dX5_takeOver_25 rfl rfl rfl ⟨Nat.le_of_ble_eq_true rfl, Nat.le_of_ble_eq_true rfl⟩ (Nat.le_of_ble_eq_true rfl) ⟨Nat.le_of_ble_eq_true rfl, Nat.le_of_ble_eq_true rfl⟩ ?_
  refine V.st (st' := []) rfl ?_
  cases E
  exact v_retv C hr hlk dX5_takeOver_28

def line_clear  (h : Hp) : Option Hp :=
  some (sI h (1, 0) 1 (0 : Int32))
set_option maxHeartbeats 2000000 in
set_option maxRecDepth 20000 in
theorem c_line_clear (l : Launch)  (h : Hp) (h' : Hp)  (E : line_clear  h = some h') : Ctr l yX4_clear cX4_clear 1 none 0 0 0 0 true [aA 1 (some 0)] h none h' := by
  rw [line_clear] at E
  refine Ctr.of (ls0 := [some (aA 1 (some 0))]) (by decide +kernel) (Nat.le_of_ble_eq_true rfl) rfl ?_
  intro G p e s m args below meth c C hr hlk hnm
  refine v_aload_n C (pc' := 1) dX4_clear_0 rfl rfl rfl ?_
  refine v_iconst C (pc' := 2) dX4_clear_1 (v := (0 : Int32)) (by decide) rfl ?_
  refine v_putI C (pc' := 5) fp_X4_15 rfl rfl lv0_1 dX4_clear_2 rfl ?_
  cases E
  exact v_retv C hr hlk dX4_clear_5

def r_enter  (h : Hp) : Option (Int32 × Hp) :=
  (if (gI h (0, 0) 8) = 0 then
    some ((-1 : Int32), h)
  else
    (mem_takeOver 0 (some 1) h).bind fun y3 =>
    (r_answerLine y3).bind fun y4 =>
    some (y4.1, (sI y4.2 (0, 0) 9 y4.1))).bind fun t2 =>
  (line_clear t2.2).bind fun y5 =>
  some (t2.1, y5)
set_option maxHeartbeats 2000000 in
set_option maxRecDepth 20000 in
theorem c_r_enter (l : Launch)  (h : Hp) (r : Int32) (h' : Hp)  (E : r_enter  h = some (r, h')) : Ctr l yX12_enter cX12_enter 2 (some .int) 8 173 0 0 true [aA 0 (some 0)] h (some (aI r)) h' := by
  rw [r_enter] at E
  refine Ctr.of (ls0 := [some (aA 0 (some 0)), none]) (by decide +kernel) (Nat.le_of_ble_eq_true rfl) rfl ?_
  intro G p e s m args below meth c C hr hlk hnm
  refine v_iconst C (pc' := 1) dX12_enter_0 (v := (-1 : Int32)) (by decide) rfl ?_
  refine v_istore1 C (pc' := 2) dX12_enter_1 (by decide) rfl rfl ?_
  refine v_aload_n C (pc' := 3) dX12_enter_2 rfl rfl rfl ?_
  refine v_getI C (pc' := 6) fl_X12_61 rfl (Or.inr rfl) lv0_0 dX12_enter_3 rfl ?_
  obtain ⟨t2, At2, E⟩ := bind_some E
  have Kt2 : V true G p l e { frames := 8, cells := 0, slots := 0, locals := 173 } s m args below meth c 2 (MQ below (QcA true G (some (aI r)) h') args s 0 0 (A_ G)) t2.2 0 0 30 [some (aA 0 (some 0)), some (aI t2.1)] [] := by
    refine v_aload_n C (pc' := 31) dX12_enter_30 rfl rfl rfl ?_
    refine v_getF C (pc' := 34) rfl fl_X12_10 rfl rfl (t2 := 1) rfl (j := 0) rfl u0_0 dX12_enter_31 rfl ?_
    obtain ⟨y5, hy5, E⟩ := bind_some E
    refine v_callV C (pc' := 37) (rest := []) (c_line_clear l t2.2 _ hy5) mv_X12_141 rfl rfl lv0_1 dX12_enter_34 rfl rfl rfl ⟨Nat.le_of_ble_eq_true rfl, Nat.le_of_ble_eq_true rfl⟩ (Nat.le_of_ble_eq_true rfl) ⟨Nat.le_of_ble_eq_true rfl, Nat.le_of_ble_eq_true rfl⟩ ?_
    refine V.st (st' := []) rfl ?_
    refine v_iload_n C (pc' := 38) dX12_enter_37 rfl rfl rfl ?_
    cases E
    exact v_reti C hr hlk dX12_enter_38
  refine v_if_eq C (tg := 30) (pc' := 9) dX12_enter_6 (by decide) rfl (fun q1 => ?_) (fun q1 => ?_)
  · rw [if_pos q1] at At2
    cases At2
    exact Kt2
  · rw [if_neg q1] at At2
    refine v_aload_n C (pc' := 10) dX12_enter_9 rfl rfl rfl ?_
    refine v_getF C (pc' := 13) rfl fl_X12_54 rfl rfl (t2 := 14) rfl (j := 0) rfl u0_0 dX12_enter_10 rfl ?_
    refine v_aload_n C (pc' := 14) dX12_enter_13 rfl rfl rfl ?_
    refine v_getF C (pc' := 17) rfl fl_X12_58 rfl rfl (t2 := 14) rfl (j := 1) rfl u0_0 dX12_enter_14 rfl ?_
    obtain ⟨y3, hy3, At2⟩ := bind_some At2
    refine v_callV C (pc' := 20) (rest := []) (c_mem_takeOver l 0 (some 1) h _ (by decide) hy3) mv_X12_134 rfl rfl (lvq_me (by decide)) dX12_enter_17 rfl rfl rfl ⟨Nat.le_of_ble_eq_true rfl, Nat.le_of_ble_eq_true rfl⟩ (Nat.le_of_ble_eq_true rfl) ⟨Nat.le_of_ble_eq_true rfl, Nat.le_of_ble_eq_true rfl⟩ ?_
    refine V.st (st' := []) rfl ?_
    refine v_aload_n C (pc' := 21) dX12_enter_20 rfl rfl rfl ?_
    obtain ⟨y4, hy4, At2⟩ := bind_some At2
    refine v_callV C (pc' := 24) (rest := []) (c_r_answerLine l y3 _ _ hy4) mv_X12_138 rfl rfl lv0_0 dX12_enter_21 rfl rfl rfl ⟨Nat.le_of_ble_eq_true rfl, Nat.le_of_ble_eq_true rfl⟩ (Nat.le_of_ble_eq_true rfl) ⟨Nat.le_of_ble_eq_true rfl, Nat.le_of_ble_eq_true rfl⟩ ?_
    refine V.st (st' := [aI y4.1]) rfl ?_
    refine v_istore1 C (pc' := 25) dX12_enter_24 (by decide) rfl rfl ?_
    refine v_aload_n C (pc' := 26) dX12_enter_25 rfl rfl rfl ?_
    refine v_iload_n C (pc' := 27) dX12_enter_26 rfl rfl rfl ?_
    refine v_putI C (pc' := 30) fp_X12_65 rfl rfl lv0_0 dX12_enter_27 rfl ?_
    cases At2
    exact Kt2

def cargo_receive (p1 : Int32) (h : Hp) : Option (Int32 × Hp) :=
  if (gI h (12, 0) 2) < (80 : Int32) then
    (cargo_add p1 h).bind fun y2 =>
    some ((1 : Int32), y2)
  else
    some ((0 : Int32), h)
set_option maxHeartbeats 2000000 in
set_option maxRecDepth 20000 in
theorem c_cargo_receive (l : Launch) (p1 : Int32) (h : Hp) (r : Int32) (h' : Hp)  (E : cargo_receive p1 h = some (r, h')) : Ctr l yX2_receive cX2_receive 2 (some .boolean) 1 21 0 0 true [aA 12 (some 0), aI p1] h (some (aI r)) h' := by
  rw [cargo_receive] at E
  refine Ctr.of (ls0 := [some (aA 12 (some 0)), some (aI p1)]) (by decide +kernel) (Nat.le_of_ble_eq_true rfl) rfl ?_
  intro G p e s m args below meth c C hr hlk hnm
  refine v_aload_n C (pc' := 1) dX2_receive_0 rfl rfl rfl ?_
  refine v_getI C (pc' := 4) fl_X2_23 rfl (Or.inl rfl) lv0_12 dX2_receive_1 rfl ?_
  refine v_bipush C (pc' := 6) dX2_receive_4 (v := (80 : Int32)) (by decide) rfl ?_
  refine v_icmp_lt C (tg := 11) (pc' := 9) dX2_receive_6 (by decide) rfl (fun q1 => ?_) (fun q1 => ?_)
  · rw [if_pos q1] at E
    refine v_aload_n C (pc' := 12) dX2_receive_11 rfl rfl rfl ?_
    refine v_iload_n C (pc' := 13) dX2_receive_12 rfl rfl rfl ?_
    obtain ⟨y2, hy2, E⟩ := bind_some E
    refine v_callV C (pc' := 16) (rest := []) (c_cargo_add l p1 h _ hy2) mv_X2_52 rfl rfl lv0_12 dX2_receive_13 rfl rfl rfl ⟨Nat.le_of_ble_eq_true rfl, Nat.le_of_ble_eq_true rfl⟩ (Nat.le_of_ble_eq_true rfl) ⟨Nat.le_of_ble_eq_true rfl, Nat.le_of_ble_eq_true rfl⟩ ?_
    refine V.st (st' := []) rfl ?_
    refine v_iconst C (pc' := 17) dX2_receive_16 (v := (1 : Int32)) (by decide) rfl ?_
    cases E
    exact v_retz C hr hlk (Or.inr rfl) dX2_receive_17
  · rw [if_neg q1] at E
    refine v_iconst C (pc' := 10) dX2_receive_9 (v := (0 : Int32)) (by decide) rfl ?_
    cases E
    exact v_retz C hr hlk (Or.inl rfl) dX2_receive_10

def r_give (p1 : Int32) (h : Hp) : Option (Int32 × Hp) :=
  (if (gI h (12, 0) 1) = (2 : Int32) then
    (cargo_receive (p1 &&& (255 : Int32)) h).bind fun y3 =>
    if y3.1 = 0 then
      some ((0 : Int32), y3.2)
    else
      some ((1 : Int32), y3.2)
  else
    some ((0 : Int32), h)).bind fun t2 =>
  guardZ t2.1 <|
  some (t2.1, t2.2)
set_option maxHeartbeats 2000000 in
set_option maxRecDepth 20000 in
theorem c_r_give (l : Launch) (p1 : Int32) (h : Hp) (r : Int32) (h' : Hp)  (E : r_give p1 h = some (r, h')) : Ctr l yX12_give cX12_give 2 (some .boolean) 2 42 0 0 true [aA 0 (some 0), aI p1] h (some (aI r)) h' := by
  rw [r_give] at E
  refine Ctr.of (ls0 := [some (aA 0 (some 0)), some (aI p1)]) (by decide +kernel) (Nat.le_of_ble_eq_true rfl) rfl ?_
  intro G p e s m args below meth c C hr hlk hnm
  refine v_aload_n C (pc' := 1) dX12_give_0 rfl rfl rfl ?_
  refine v_getF C (pc' := 4) rfl fl_X12_47 rfl rfl (t2 := 12) rfl (j := 0) rfl u0_0 dX12_give_1 rfl ?_
  refine v_getI C (pc' := 7) fl_X12_153 rfl (Or.inl rfl) lv0_12 dX12_give_4 rfl ?_
  refine v_iconst C (pc' := 8) dX12_give_7 (v := (2 : Int32)) (by decide) rfl ?_
  obtain ⟨t2, At2, E⟩ := bind_some E
  have Kt2 : V true G p l e { frames := 2, cells := 0, slots := 0, locals := 42 } s m args below meth c 2 (MQ below (QcA true G (some (aI r)) h') args s 0 0 (A_ G)) t2.2 0 0 31 [some (aA 0 (some 0)), some (aI p1)] [aI t2.1] := by
    obtain ⟨z5, E⟩ := guardZ_some E
    cases E
    exact v_retz C hr hlk z5 dX12_give_31
  refine v_icmp_ne C (tg := 30) (pc' := 11) dX12_give_8 (by decide) rfl (fun q1 => ?_) (fun q1 => ?_)
  · rw [if_neg q1] at At2
    refine v_iconst C (pc' := 31) dX12_give_30 (v := (0 : Int32)) (by decide) rfl ?_
    cases At2
    exact Kt2
  · rw [if_pos q1] at At2
    refine v_aload_n C (pc' := 12) dX12_give_11 rfl rfl rfl ?_
    refine v_getF C (pc' := 15) rfl fl_X12_47 rfl rfl (t2 := 12) rfl (j := 0) rfl u0_0 dX12_give_12 rfl ?_
    refine v_iload_n C (pc' := 16) dX12_give_15 rfl rfl rfl ?_
    refine v_sipush C (pc' := 19) dX12_give_16 (v := (255 : Int32)) (by decide) rfl ?_
    refine v_iand C (pc' := 20) dX12_give_19 rfl ?_
    obtain ⟨y3, hy3, At2⟩ := bind_some At2
    refine v_callV C (pc' := 23) (rest := []) (c_cargo_receive l (p1 &&& (255 : Int32)) h _ _ hy3) mv_X12_162 rfl rfl lv0_12 dX12_give_20 rfl rfl rfl ⟨Nat.le_of_ble_eq_true rfl, Nat.le_of_ble_eq_true rfl⟩ (Nat.le_of_ble_eq_true rfl) ⟨Nat.le_of_ble_eq_true rfl, Nat.le_of_ble_eq_true rfl⟩ ?_
    refine V.st (st' := [aI y3.1]) rfl ?_
    refine v_if_eq C (tg := 30) (pc' := 26) dX12_give_23 (by decide) rfl (fun q4 => ?_) (fun q4 => ?_)
    · rw [if_pos q4] at At2
      refine v_iconst C (pc' := 31) dX12_give_30 (v := (0 : Int32)) (by decide) rfl ?_
      cases At2
      exact Kt2
    · rw [if_neg q4] at At2
      refine v_iconst C (pc' := 27) dX12_give_26 (v := (1 : Int32)) (by decide) rfl ?_
      refine v_goto C (pc' := 31) dX12_give_27 (by decide) ?_
      cases At2
      exact Kt2

def r_join  (h : Hp) : Option (Int32 × Hp) :=
  guardW (gR h (0, 0) 13) <|
  if (gR h (0, 0) 13) = (some 1) then
    some ((1 : Int32), (sR h (0, 0) 13 (some 2)))
  else
    some ((0 : Int32), h)
set_option maxHeartbeats 2000000 in
set_option maxRecDepth 20000 in
theorem c_r_join (l : Launch)  (h : Hp) (r : Int32) (h' : Hp)  (E : r_join  h = some (r, h')) : Ctr l yX12_join cX12_join 1 (some .boolean) 0 0 0 0 true [aA 0 (some 0)] h (some (aI r)) h' := by
  rw [r_join] at E
  refine Ctr.of (ls0 := [some (aA 0 (some 0))]) (by decide +kernel) (Nat.le_of_ble_eq_true rfl) rfl ?_
  intro G p e s m args below meth c C hr hlk hnm
  refine v_aload_n C (pc' := 1) dX12_join_0 rfl rfl rfl ?_
  refine v_getR C (pc' := 4) fl_X12_85 rfl rfl (t2 := 102) rfl lv0_0 dX12_join_1 rfl ?_
  refine v_gsW C (pc' := 7) (k := 1) (by decide) (TT_of (i := 821) (by decide +kernel) (by decide +kernel)) dX12_join_4 rfl ?_
  obtain ⟨w1, E⟩ := guardW_some E
  refine v_wcmp_eq C (tg := 12) (pc' := 10) w1 (fun i e => by cases e; decide) dX12_join_7 (by decide) rfl (fun q2 => ?_) (fun q2 => ?_)
  · rw [if_pos q2] at E
    refine v_aload_n C (pc' := 13) dX12_join_12 rfl rfl rfl ?_
    refine v_gsW C (pc' := 16) (k := 2) (by decide) (TT_of (i := 745) (by decide +kernel) (by decide +kernel)) dX12_join_13 rfl ?_
    refine v_putR C (pc' := 19) fp_X12_85 rfl rfl lv0_0 dX12_join_16 rfl (t2 := 102) rfl (fun _ => ⟨rfl, by decide⟩) ?_
    refine v_iconst C (pc' := 20) dX12_join_19 (v := (1 : Int32)) (by decide) rfl ?_
    cases E
    exact v_retz C hr hlk (Or.inr rfl) dX12_join_20
  · rw [if_neg q2] at E
    refine v_iconst C (pc' := 11) dX12_join_10 (v := (0 : Int32)) (by decide) rfl ?_
    cases E
    exact v_retz C hr hlk (Or.inl rfl) dX12_join_11

def r_listen (p1 : Int32) (h : Hp) : Option (Int32 × Hp) :=
  if p1 < (-1 : Int32) then
    some ((0 : Int32), h)
  else
    if p1 ≤ (65535 : Int32) then
      some ((1 : Int32), (sI h (0, 0) 15 p1))
    else
      some ((0 : Int32), h)
set_option maxHeartbeats 2000000 in
set_option maxRecDepth 20000 in
theorem c_r_listen (l : Launch) (p1 : Int32) (h : Hp) (r : Int32) (h' : Hp)  (E : r_listen p1 h = some (r, h')) : Ctr l yX12_listen cX12_listen 2 (some .boolean) 0 0 0 0 true [aA 0 (some 0), aI p1] h (some (aI r)) h' := by
  rw [r_listen] at E
  refine Ctr.of (ls0 := [some (aA 0 (some 0)), some (aI p1)]) (by decide +kernel) (Nat.le_of_ble_eq_true rfl) rfl ?_
  intro G p e s m args below meth c C hr hlk hnm
  refine v_iload_n C (pc' := 1) dX12_listen_0 rfl rfl rfl ?_
  refine v_iconst C (pc' := 2) dX12_listen_1 (v := (-1 : Int32)) (by decide) rfl ?_
  refine v_icmp_lt C (tg := 11) (pc' := 5) dX12_listen_2 (by decide) rfl (fun q1 => ?_) (fun q1 => ?_)
  · rw [if_pos q1] at E
    refine v_iconst C (pc' := 12) dX12_listen_11 (v := (0 : Int32)) (by decide) rfl ?_
    cases E
    exact v_retz C hr hlk (Or.inl rfl) dX12_listen_12
  · rw [if_neg q1] at E
    refine v_iload_n C (pc' := 6) dX12_listen_5 rfl rfl rfl ?_
    refine v_ldc C (pc' := 8) dX12_listen_6 (v := (65535 : Int32)) (TT_of (i := 851) (by decide +kernel) (by decide +kernel)) rfl ?_
    refine v_icmp_le C (tg := 13) (pc' := 11) dX12_listen_8 (by decide) rfl (fun q2 => ?_) (fun q2 => ?_)
    · rw [if_pos q2] at E
      refine v_aload_n C (pc' := 14) dX12_listen_13 rfl rfl rfl ?_
      refine v_iload_n C (pc' := 15) dX12_listen_14 rfl rfl rfl ?_
      refine v_putI C (pc' := 18) fp_X12_91 rfl rfl lv0_0 dX12_listen_15 rfl ?_
      refine v_iconst C (pc' := 19) dX12_listen_18 (v := (1 : Int32)) (by decide) rfl ?_
      cases E
      exact v_retz C hr hlk (Or.inr rfl) dX12_listen_19
    · rw [if_neg q2] at E
      refine v_iconst C (pc' := 12) dX12_listen_11 (v := (0 : Int32)) (by decide) rfl ?_
      cases E
      exact v_retz C hr hlk (Or.inl rfl) dX12_listen_12

def r_nodes  (h : Hp) : Option Int32 :=
  (tree_countNodes h).bind fun y1 =>
  some y1
set_option maxHeartbeats 2000000 in
set_option maxRecDepth 20000 in
theorem c_r_nodes (l : Launch)  (h : Hp) (r : Int32)  (E : r_nodes  h = some r) : Ctr l yX12_nodes cX12_nodes 1 (some .int) 1 25 0 0 true [aA 0 (some 0)] h (some (aI r)) h := by
  rw [r_nodes] at E
  refine Ctr.of (ls0 := [some (aA 0 (some 0))]) (by decide +kernel) (Nat.le_of_ble_eq_true rfl) rfl ?_
  intro G p e s m args below meth c C hr hlk hnm
  refine v_aload_n C (pc' := 1) dX12_nodes_0 rfl rfl rfl ?_
  refine v_getF C (pc' := 4) rfl fl_X12_19 rfl rfl (t2 := 3) rfl (j := 0) rfl u0_0 dX12_nodes_1 rfl ?_
  obtain ⟨y1, hy1, E⟩ := bind_some E
  refine v_callV C (pc' := 7) (rest := []) (c_tree_countNodes l h _ hy1) mv_X12_170 rfl rfl lv0_3 dX12_nodes_4 rfl rfl rfl ⟨Nat.le_of_ble_eq_true rfl, Nat.le_of_ble_eq_true rfl⟩ (Nat.le_of_ble_eq_true rfl) ⟨Nat.le_of_ble_eq_true rfl, Nat.le_of_ble_eq_true rfl⟩ ?_
  refine V.st (st' := [aI y1]) rfl ?_
  cases E
  exact v_reti C hr hlk dX12_nodes_7

def r_open  (h : Hp) : Option (Int32 × Hp) :=
  if (gI h (0, 0) 8) = 0 then
    (r_logOut (sI h (0, 0) 8 (1 : Int32))).bind fun y2 =>
    (mem_clear 1 (sR (sI y2 (0, 0) 12 (0 : Int32)) (0, 0) 13 (some 0))).bind fun y3 =>
    some ((1 : Int32), (sI y3 (0, 0) 9 (220 : Int32)))
  else
    some ((0 : Int32), h)
set_option maxHeartbeats 2000000 in
set_option maxRecDepth 20000 in
theorem c_r_open (l : Launch)  (h : Hp) (r : Int32) (h' : Hp)  (E : r_open  h = some (r, h')) : Ctr l yX12_open cX12_open 1 (some .boolean) 1 20 0 0 true [aA 0 (some 0)] h (some (aI r)) h' := by
  rw [r_open] at E
  refine Ctr.of (ls0 := [some (aA 0 (some 0))]) (by decide +kernel) (Nat.le_of_ble_eq_true rfl) rfl ?_
  intro G p e s m args below meth c C hr hlk hnm
  refine v_aload_n C (pc' := 1) dX12_open_0 rfl rfl rfl ?_
  refine v_getI C (pc' := 4) fl_X12_61 rfl (Or.inr rfl) lv0_0 dX12_open_1 rfl ?_
  refine v_if_eq C (tg := 9) (pc' := 7) dX12_open_4 (by decide) rfl (fun q1 => ?_) (fun q1 => ?_)
  · rw [if_pos q1] at E
    refine v_aload_n C (pc' := 10) dX12_open_9 rfl rfl rfl ?_
    refine v_iconst C (pc' := 11) dX12_open_10 (v := (1 : Int32)) (by decide) rfl ?_
    refine v_putZ C (pc' := 14) fp_X12_61 rfl rfl lv0_0 dX12_open_11 rfl (Or.inr rfl) ?_
    refine v_aload_n C (pc' := 15) dX12_open_14 rfl rfl rfl ?_
    obtain ⟨y2, hy2, E⟩ := bind_some E
    refine v_callV C (pc' := 18) (rest := []) (c_r_logOut l (sI h (0, 0) 8 (1 : Int32)) _ hy2) mv_X12_123 rfl rfl lv0_0 dX12_open_15 rfl rfl rfl ⟨Nat.le_of_ble_eq_true rfl, Nat.le_of_ble_eq_true rfl⟩ (Nat.le_of_ble_eq_true rfl) ⟨Nat.le_of_ble_eq_true rfl, Nat.le_of_ble_eq_true rfl⟩ ?_
    refine V.st (st' := []) rfl ?_
    refine v_aload_n C (pc' := 19) dX12_open_18 rfl rfl rfl ?_
    refine v_iconst C (pc' := 20) dX12_open_19 (v := (0 : Int32)) (by decide) rfl ?_
    refine v_putZ C (pc' := 23) fp_X12_76 rfl rfl lv0_0 dX12_open_20 rfl (Or.inl rfl) ?_
    refine v_aload_n C (pc' := 24) dX12_open_23 rfl rfl rfl ?_
    refine v_gsW C (pc' := 27) (k := 0) (by decide) (TT_of (i := 299) (by decide +kernel) (by decide +kernel)) dX12_open_24 rfl ?_
    refine v_putR C (pc' := 30) fp_X12_85 rfl rfl lv0_0 dX12_open_27 rfl (t2 := 102) rfl (fun _ => ⟨rfl, by decide⟩) ?_
    refine v_aload_n C (pc' := 31) dX12_open_30 rfl rfl rfl ?_
    refine v_getF C (pc' := 34) rfl fl_X12_58 rfl rfl (t2 := 14) rfl (j := 1) rfl u0_0 dX12_open_31 rfl ?_
    obtain ⟨y3, hy3, E⟩ := bind_some E
    refine v_callV C (pc' := 37) (rest := []) (c_mem_clear l 1 (sR (sI y2 (0, 0) 12 (0 : Int32)) (0, 0) 13 (some 0)) _ (by decide) hy3) mv_X12_126 rfl rfl (lvq_me (by decide)) dX12_open_34 rfl rfl rfl ⟨Nat.le_of_ble_eq_true rfl, Nat.le_of_ble_eq_true rfl⟩ (Nat.le_of_ble_eq_true rfl) ⟨Nat.le_of_ble_eq_true rfl, Nat.le_of_ble_eq_true rfl⟩ ?_
    refine V.st (st' := []) rfl ?_
    refine v_aload_n C (pc' := 38) dX12_open_37 rfl rfl rfl ?_
    refine v_sipush C (pc' := 41) dX12_open_38 (v := (220 : Int32)) (by decide) rfl ?_
    refine v_putI C (pc' := 44) fp_X12_65 rfl rfl lv0_0 dX12_open_41 rfl ?_
    refine v_iconst C (pc' := 45) dX12_open_44 (v := (1 : Int32)) (by decide) rfl ?_
    cases E
    exact v_retz C hr hlk (Or.inr rfl) dX12_open_45
  · rw [if_neg q1] at E
    refine v_iconst C (pc' := 8) dX12_open_7 (v := (0 : Int32)) (by decide) rfl ?_
    cases E
    exact v_retz C hr hlk (Or.inl rfl) dX12_open_8

def r_reply  (h : Hp) : Option Int32 :=
  some (gI h (0, 0) 9)
set_option maxHeartbeats 2000000 in
set_option maxRecDepth 20000 in
theorem c_r_reply (l : Launch)  (h : Hp) (r : Int32)  (E : r_reply  h = some r) : Ctr l yX12_reply cX12_reply 1 (some .int) 0 0 0 0 true [aA 0 (some 0)] h (some (aI r)) h := by
  rw [r_reply] at E
  refine Ctr.of (ls0 := [some (aA 0 (some 0))]) (by decide +kernel) (Nat.le_of_ble_eq_true rfl) rfl ?_
  intro G p e s m args below meth c C hr hlk hnm
  refine v_aload_n C (pc' := 1) dX12_reply_0 rfl rfl rfl ?_
  refine v_getI C (pc' := 4) fl_X12_65 rfl (Or.inl rfl) lv0_0 dX12_reply_1 rfl ?_
  cases E
  exact v_reti C hr hlk dX12_reply_4

def cargo_next  (h : Hp) : Option (Int32 × Hp) :=
  if (gI h (12, 0) 2) ≤ (gI h (12, 0) 3) then
    some ((-1 : Int32), h)
  else
    if (gI h (12, 0) 3) < (192 : Int32) then
      guardB ((gI (sI h (12, 0) 3 ((gI h (12, 0) 3) + (1 : Int32))) (12, 0) 3) - (1 : Int32)) 192 <|
      some ((gI (sI h (12, 0) 3 ((gI h (12, 0) 3) + (1 : Int32))) (13, 0) ((gI (sI h (12, 0) 3 ((gI h (12, 0) 3) + (1 : Int32))) (12, 0) 3) - (1 : Int32)).toNatClampNeg), (sI h (12, 0) 3 ((gI h (12, 0) 3) + (1 : Int32))))
    else
      some ((-1 : Int32), h)
set_option maxHeartbeats 2000000 in
set_option maxRecDepth 20000 in
theorem c_cargo_next (l : Launch)  (h : Hp) (r : Int32) (h' : Hp)  (E : cargo_next  h = some (r, h')) : Ctr l yX2_next cX2_next 1 (some .int) 0 0 0 0 true [aA 12 (some 0)] h (some (aI r)) h' := by
  rw [cargo_next] at E
  refine Ctr.of (ls0 := [some (aA 12 (some 0))]) (by decide +kernel) (Nat.le_of_ble_eq_true rfl) rfl ?_
  intro G p e s m args below meth c C hr hlk hnm
  refine v_aload_n C (pc' := 1) dX2_next_0 rfl rfl rfl ?_
  refine v_getI C (pc' := 4) fl_X2_26 rfl (Or.inl rfl) lv0_12 dX2_next_1 rfl ?_
  refine v_aload_n C (pc' := 5) dX2_next_4 rfl rfl rfl ?_
  refine v_getI C (pc' := 8) fl_X2_23 rfl (Or.inl rfl) lv0_12 dX2_next_5 rfl ?_
  refine v_icmp_ge C (tg := 23) (pc' := 11) dX2_next_8 (by decide) rfl (fun q1 => ?_) (fun q1 => ?_)
  · rw [if_pos q1] at E
    refine v_iconst C (pc' := 24) dX2_next_23 (v := (-1 : Int32)) (by decide) rfl ?_
    cases E
    exact v_reti C hr hlk dX2_next_24
  · rw [if_neg q1] at E
    refine v_aload_n C (pc' := 12) dX2_next_11 rfl rfl rfl ?_
    refine v_getI C (pc' := 15) fl_X2_26 rfl (Or.inl rfl) lv0_12 dX2_next_12 rfl ?_
    refine v_aload_n C (pc' := 16) dX2_next_15 rfl rfl rfl ?_
    refine v_getF C (pc' := 19) rfl fl_X2_13 rfl rfl (t2 := 13) rfl (j := 0) rfl u0_12 dX2_next_16 rfl ?_
    refine v_alen C (pc' := 20) (t := 13) rfl (by decide) lv0_13 (v := (192 : Int32)) (by decide) dX2_next_19 rfl ?_
    refine v_icmp_lt C (tg := 25) (pc' := 23) dX2_next_20 (by decide) rfl (fun q2 => ?_) (fun q2 => ?_)
    · rw [if_pos q2] at E
      refine v_aload_n C (pc' := 26) dX2_next_25 rfl rfl rfl ?_
      refine v_dup C (pc' := 27) dX2_next_26 rfl rfl ?_
      refine v_getI C (pc' := 30) fl_X2_26 rfl (Or.inl rfl) lv0_12 dX2_next_27 rfl ?_
      refine v_iconst C (pc' := 31) dX2_next_30 (v := (1 : Int32)) (by decide) rfl ?_
      refine v_iadd C (pc' := 32) dX2_next_31 rfl ?_
      refine v_putI C (pc' := 35) fp_X2_26 rfl rfl lv0_12 dX2_next_32 rfl ?_
      refine v_aload_n C (pc' := 36) dX2_next_35 rfl rfl rfl ?_
      refine v_getF C (pc' := 39) rfl fl_X2_13 rfl rfl (t2 := 13) rfl (j := 0) rfl u0_12 dX2_next_36 rfl ?_
      refine v_aload_n C (pc' := 40) dX2_next_39 rfl rfl rfl ?_
      refine v_getI C (pc' := 43) fl_X2_26 rfl (Or.inl rfl) lv0_12 dX2_next_40 rfl ?_
      refine v_iconst C (pc' := 44) dX2_next_43 (v := (1 : Int32)) (by decide) rfl ?_
      refine v_isub C (pc' := 45) dX2_next_44 rfl ?_
      obtain ⟨g3, E⟩ := guardB_some E
      refine v_iald C (pc' := 46) (t := 13) rfl lv0_13 g3 dX2_next_45 rfl ?_
      cases E
      exact v_reti C hr hlk dX2_next_46
    · rw [if_neg q2] at E
      refine v_iconst C (pc' := 24) dX2_next_23 (v := (-1 : Int32)) (by decide) rfl ?_
      cases E
      exact v_reti C hr hlk dX2_next_24

def r_take  (h : Hp) : Option (Int32 × Hp) :=
  if (gI h (12, 0) 1) = (1 : Int32) then
    (cargo_next h).bind fun y2 =>
    (if y2.1 = (-1 : Int32) then
      (r_dropTransfer y2.2).bind fun y5 =>
      some (sI y5 (0, 0) 9 (226 : Int32))
    else
      some y2.2).bind fun t4 =>
    some (y2.1, t4)
  else
    some ((-1 : Int32), h)
set_option maxHeartbeats 2000000 in
set_option maxRecDepth 20000 in
theorem c_r_take (l : Launch)  (h : Hp) (r : Int32) (h' : Hp)  (E : r_take  h = some (r, h')) : Ctr l yX12_take cX12_take 2 (some .int) 2 40 0 0 true [aA 0 (some 0)] h (some (aI r)) h' := by
  rw [r_take] at E
  refine Ctr.of (ls0 := [some (aA 0 (some 0)), none]) (by decide +kernel) (Nat.le_of_ble_eq_true rfl) rfl ?_
  intro G p e s m args below meth c C hr hlk hnm
  refine v_aload_n C (pc' := 1) dX12_take_0 rfl rfl rfl ?_
  refine v_getF C (pc' := 4) rfl fl_X12_47 rfl rfl (t2 := 12) rfl (j := 0) rfl u0_0 dX12_take_1 rfl ?_
  refine v_getI C (pc' := 7) fl_X12_153 rfl (Or.inl rfl) lv0_12 dX12_take_4 rfl ?_
  refine v_iconst C (pc' := 8) dX12_take_7 (v := (1 : Int32)) (by decide) rfl ?_
  refine v_icmp_eq C (tg := 13) (pc' := 11) dX12_take_8 (by decide) rfl (fun q1 => ?_) (fun q1 => ?_)
  · rw [if_pos q1] at E
    refine v_aload_n C (pc' := 14) dX12_take_13 rfl rfl rfl ?_
    refine v_getF C (pc' := 17) rfl fl_X12_47 rfl rfl (t2 := 12) rfl (j := 0) rfl u0_0 dX12_take_14 rfl ?_
    obtain ⟨y2, hy2, E⟩ := bind_some E
    refine v_callV C (pc' := 20) (rest := []) (c_cargo_next l h _ _ hy2) mv_X12_156 rfl rfl lv0_12 dX12_take_17 rfl rfl rfl ⟨Nat.le_of_ble_eq_true rfl, Nat.le_of_ble_eq_true rfl⟩ (Nat.le_of_ble_eq_true rfl) ⟨Nat.le_of_ble_eq_true rfl, Nat.le_of_ble_eq_true rfl⟩ ?_
    refine V.st (st' := [aI y2.1]) rfl ?_
    refine v_istore1 C (pc' := 21) dX12_take_20 (by decide) rfl rfl ?_
    refine v_iload_n C (pc' := 22) dX12_take_21 rfl rfl rfl ?_
    refine v_iconst C (pc' := 23) dX12_take_22 (v := (-1 : Int32)) (by decide) rfl ?_
    obtain ⟨t4, At4, E⟩ := bind_some E
    have Kt4 : V true G p l e { frames := 2, cells := 0, slots := 0, locals := 40 } s m args below meth c 2 (MQ below (QcA true G (some (aI r)) h') args s 0 0 (A_ G)) t4 0 0 37 [some (aA 0 (some 0)), some (aI y2.1)] [] := by
      refine v_iload_n C (pc' := 38) dX12_take_37 rfl rfl rfl ?_
      cases E
      exact v_reti C hr hlk dX12_take_38
    refine v_icmp_ne C (tg := 37) (pc' := 26) dX12_take_23 (by decide) rfl (fun q3 => ?_) (fun q3 => ?_)
    · rw [if_neg q3] at At4
      cases At4
      exact Kt4
    · rw [if_pos q3] at At4
      refine v_aload_n C (pc' := 27) dX12_take_26 rfl rfl rfl ?_
      obtain ⟨y5, hy5, At4⟩ := bind_some At4
      refine v_callV C (pc' := 30) (rest := []) (c_r_dropTransfer l y2.2 _ hy5) mv_X12_159 rfl rfl lv0_0 dX12_take_27 rfl rfl rfl ⟨Nat.le_of_ble_eq_true rfl, Nat.le_of_ble_eq_true rfl⟩ (Nat.le_of_ble_eq_true rfl) ⟨Nat.le_of_ble_eq_true rfl, Nat.le_of_ble_eq_true rfl⟩ ?_
      refine V.st (st' := []) rfl ?_
      refine v_aload_n C (pc' := 31) dX12_take_30 rfl rfl rfl ?_
      refine v_sipush C (pc' := 34) dX12_take_31 (v := (226 : Int32)) (by decide) rfl ?_
      refine v_putI C (pc' := 37) fp_X12_65 rfl rfl lv0_0 dX12_take_34 rfl ?_
      cases At4
      exact Kt4
  · rw [if_neg q1] at E
    refine v_iconst C (pc' := 12) dX12_take_11 (v := (-1 : Int32)) (by decide) rfl ?_
    cases E
    exact v_reti C hr hlk dX12_take_12

def msg_at (p1 : Int32) (h : Hp) : Option Int32 :=
  (if p1 < 0 then
    some (0 : Int32)
  else
    if ((168 : Int32) - (gI h (10, 0) 1)) ≤ p1 then
      some (0 : Int32)
    else
      guardB ((gI h (10, 0) 1) + p1) 168 <|
      some (gI h (11, 0) ((gI h (10, 0) 1) + p1).toNatClampNeg)).bind fun t2 =>
  guardC t2 <|
  some t2
set_option maxHeartbeats 2000000 in
set_option maxRecDepth 20000 in
theorem c_msg_at (l : Launch) (p1 : Int32) (h : Hp) (r : Int32)  (E : msg_at p1 h = some r) : Ctr l yX6_at cX6_at 2 (some .char) 0 0 0 0 true [aA 10 (some 0), aI p1] h (some (aI r)) h := by
  rw [msg_at] at E
  refine Ctr.of (ls0 := [some (aA 10 (some 0)), some (aI p1)]) (by decide +kernel) (Nat.le_of_ble_eq_true rfl) rfl ?_
  intro G p e s m args below meth c C hr hlk hnm
  refine v_iload_n C (pc' := 1) dX6_at_0 rfl rfl rfl ?_
  obtain ⟨t2, At2, E⟩ := bind_some E
  have Kt2 : V true G p l e { frames := 0, cells := 0, slots := 0, locals := 0 } s m args below meth c 2 (MQ below (QcA true G (some (aI r)) h) args s 0 0 (A_ G)) h 0 0 33 [some (aA 10 (some 0)), some (aI p1)] [aI t2] := by
    obtain ⟨z5, E⟩ := guardC_some E
    cases E
    exact v_retc C hr hlk z5 dX6_at_33
  refine v_if_lt C (tg := 32) (pc' := 4) dX6_at_1 (by decide) rfl (fun q1 => ?_) (fun q1 => ?_)
  · rw [if_pos q1] at At2
    refine v_iconst C (pc' := 33) dX6_at_32 (v := (0 : Int32)) (by decide) rfl ?_
    cases At2
    exact Kt2
  · rw [if_neg q1] at At2
    refine v_iload_n C (pc' := 5) dX6_at_4 rfl rfl rfl ?_
    refine v_aload_n C (pc' := 6) dX6_at_5 rfl rfl rfl ?_
    refine v_getF C (pc' := 9) rfl fl_X6_11 rfl rfl (t2 := 11) rfl (j := 0) rfl u0_10 dX6_at_6 rfl ?_
    refine v_alen C (pc' := 10) (t := 11) rfl (by decide) lv0_11 (v := (168 : Int32)) (by decide) dX6_at_9 rfl ?_
    refine v_aload_n C (pc' := 11) dX6_at_10 rfl rfl rfl ?_
    refine v_getI C (pc' := 14) fl_X6_17 rfl (Or.inl rfl) lv0_10 dX6_at_11 rfl ?_
    refine v_isub C (pc' := 15) dX6_at_14 rfl ?_
    refine v_icmp_ge C (tg := 32) (pc' := 18) dX6_at_15 (by decide) rfl (fun q3 => ?_) (fun q3 => ?_)
    · rw [if_pos q3] at At2
      refine v_iconst C (pc' := 33) dX6_at_32 (v := (0 : Int32)) (by decide) rfl ?_
      cases At2
      exact Kt2
    · rw [if_neg q3] at At2
      refine v_aload_n C (pc' := 19) dX6_at_18 rfl rfl rfl ?_
      refine v_getF C (pc' := 22) rfl fl_X6_11 rfl rfl (t2 := 11) rfl (j := 0) rfl u0_10 dX6_at_19 rfl ?_
      refine v_aload_n C (pc' := 23) dX6_at_22 rfl rfl rfl ?_
      refine v_getI C (pc' := 26) fl_X6_17 rfl (Or.inl rfl) lv0_10 dX6_at_23 rfl ?_
      refine v_iload_n C (pc' := 27) dX6_at_26 rfl rfl rfl ?_
      refine v_iadd C (pc' := 28) dX6_at_27 rfl ?_
      obtain ⟨g4, At2⟩ := guardB_some At2
      refine v_cald C (pc' := 29) (t := 11) rfl lv0_11 g4 dX6_at_28 rfl ?_
      refine v_goto C (pc' := 33) dX6_at_29 (by decide) ?_
      cases At2
      exact Kt2

def r_text (p1 : Int32) (h : Hp) : Option Int32 :=
  (if (gI h (0, 0) 9) = (257 : Int32) then
    (msg_at p1 h).bind fun y3 =>
    some y3
  else
    if (gI h (0, 0) 9) = (213 : Int32) then
      (msg_at p1 h).bind fun y5 =>
      some y5
    else
      some (0 : Int32)).bind fun t2 =>
  guardC t2 <|
  some t2
set_option maxHeartbeats 2000000 in
set_option maxRecDepth 20000 in
theorem c_r_text (l : Launch) (p1 : Int32) (h : Hp) (r : Int32)  (E : r_text p1 h = some r) : Ctr l yX12_text cX12_text 2 (some .char) 1 21 0 0 true [aA 0 (some 0), aI p1] h (some (aI r)) h := by
  rw [r_text] at E
  refine Ctr.of (ls0 := [some (aA 0 (some 0)), some (aI p1)]) (by decide +kernel) (Nat.le_of_ble_eq_true rfl) rfl ?_
  intro G p e s m args below meth c C hr hlk hnm
  refine v_aload_n C (pc' := 1) dX12_text_0 rfl rfl rfl ?_
  refine v_getI C (pc' := 4) fl_X12_65 rfl (Or.inl rfl) lv0_0 dX12_text_1 rfl ?_
  refine v_sipush C (pc' := 7) dX12_text_4 (v := (257 : Int32)) (by decide) rfl ?_
  obtain ⟨t2, At2, E⟩ := bind_some E
  have Kt2 : V true G p l e { frames := 1, cells := 0, slots := 0, locals := 21 } s m args below meth c 2 (MQ below (QcA true G (some (aI r)) h) args s 0 0 (A_ G)) h 0 0 32 [some (aA 0 (some 0)), some (aI p1)] [aI t2] := by
    obtain ⟨z6, E⟩ := guardC_some E
    cases E
    exact v_retc C hr hlk z6 dX12_text_32
  refine v_icmp_eq C (tg := 20) (pc' := 10) dX12_text_7 (by decide) rfl (fun q1 => ?_) (fun q1 => ?_)
  · rw [if_pos q1] at At2
    refine v_aload_n C (pc' := 21) dX12_text_20 rfl rfl rfl ?_
    refine v_getF C (pc' := 24) rfl fl_X12_40 rfl rfl (t2 := 10) rfl (j := 0) rfl u0_0 dX12_text_21 rfl ?_
    refine v_iload_n C (pc' := 25) dX12_text_24 rfl rfl rfl ?_
    obtain ⟨y3, hy3, At2⟩ := bind_some At2
    refine v_callV C (pc' := 28) (rest := []) (c_msg_at l p1 h _ hy3) mv_X12_142 rfl rfl lv0_10 dX12_text_25 rfl rfl rfl ⟨Nat.le_of_ble_eq_true rfl, Nat.le_of_ble_eq_true rfl⟩ (Nat.le_of_ble_eq_true rfl) ⟨Nat.le_of_ble_eq_true rfl, Nat.le_of_ble_eq_true rfl⟩ ?_
    refine V.st (st' := [aI y3]) rfl ?_
    refine v_goto C (pc' := 32) dX12_text_28 (by decide) ?_
    cases At2
    exact Kt2
  · rw [if_neg q1] at At2
    refine v_aload_n C (pc' := 11) dX12_text_10 rfl rfl rfl ?_
    refine v_getI C (pc' := 14) fl_X12_65 rfl (Or.inl rfl) lv0_0 dX12_text_11 rfl ?_
    refine v_sipush C (pc' := 17) dX12_text_14 (v := (213 : Int32)) (by decide) rfl ?_
    refine v_icmp_ne C (tg := 31) (pc' := 20) dX12_text_17 (by decide) rfl (fun q4 => ?_) (fun q4 => ?_)
    · rw [if_neg q4] at At2
      refine v_iconst C (pc' := 32) dX12_text_31 (v := (0 : Int32)) (by decide) rfl ?_
      cases At2
      exact Kt2
    · rw [if_pos q4] at At2
      refine v_aload_n C (pc' := 21) dX12_text_20 rfl rfl rfl ?_
      refine v_getF C (pc' := 24) rfl fl_X12_40 rfl rfl (t2 := 10) rfl (j := 0) rfl u0_0 dX12_text_21 rfl ?_
      refine v_iload_n C (pc' := 25) dX12_text_24 rfl rfl rfl ?_
      obtain ⟨y5, hy5, At2⟩ := bind_some At2
      refine v_callV C (pc' := 28) (rest := []) (c_msg_at l p1 h _ hy5) mv_X12_142 rfl rfl lv0_10 dX12_text_25 rfl rfl rfl ⟨Nat.le_of_ble_eq_true rfl, Nat.le_of_ble_eq_true rfl⟩ (Nat.le_of_ble_eq_true rfl) ⟨Nat.le_of_ble_eq_true rfl, Nat.le_of_ble_eq_true rfl⟩ ?_
      refine V.st (st' := [aI y5]) rfl ?_
      refine v_goto C (pc' := 32) dX12_text_28 (by decide) ?_
      cases At2
      exact Kt2

def r_transfer  (h : Hp) : Option Int32 :=
  some (gI h (12, 0) 1)
set_option maxHeartbeats 2000000 in
set_option maxRecDepth 20000 in
theorem c_r_transfer (l : Launch)  (h : Hp) (r : Int32)  (E : r_transfer  h = some r) : Ctr l yX12_transfer cX12_transfer 1 (some .int) 0 0 0 0 true [aA 0 (some 0)] h (some (aI r)) h := by
  rw [r_transfer] at E
  refine Ctr.of (ls0 := [some (aA 0 (some 0))]) (by decide +kernel) (Nat.le_of_ble_eq_true rfl) rfl ?_
  intro G p e s m args below meth c C hr hlk hnm
  refine v_aload_n C (pc' := 1) dX12_transfer_0 rfl rfl rfl ?_
  refine v_getF C (pc' := 4) rfl fl_X12_47 rfl rfl (t2 := 12) rfl (j := 0) rfl u0_0 dX12_transfer_1 rfl ?_
  refine v_getI C (pc' := 7) fl_X12_153 rfl (Or.inl rfl) lv0_12 dX12_transfer_4 rfl ?_
  cases E
  exact v_reti C hr hlk dX12_transfer_7

def line_add (p1 : Int32) (h : Hp) : Option (Int32 × Hp) :=
  if p1 < (32 : Int32) then
    some ((0 : Int32), h)
  else
    if (126 : Int32) < p1 then
      some ((0 : Int32), h)
    else
      if (gI h (1, 0) 1) < (32 : Int32) then
        guardB (gI h (1, 0) 1) 32 <|
        some ((1 : Int32), (sI (sI h (2, 0) (gI h (1, 0) 1).toNatClampNeg (vp_nar .char p1)) (1, 0) 1 ((gI (sI h (2, 0) (gI h (1, 0) 1).toNatClampNeg (vp_nar .char p1)) (1, 0) 1) + (1 : Int32))))
      else
        some ((0 : Int32), h)
set_option maxHeartbeats 2000000 in
set_option maxRecDepth 20000 in
theorem c_line_add (l : Launch) (p1 : Int32) (h : Hp) (r : Int32) (h' : Hp)  (E : line_add p1 h = some (r, h')) : Ctr l yX4_add cX4_add 2 (some .boolean) 0 0 0 0 true [aA 1 (some 0), aI p1] h (some (aI r)) h' := by
  rw [line_add] at E
  refine Ctr.of (ls0 := [some (aA 1 (some 0)), some (aI p1)]) (by decide +kernel) (Nat.le_of_ble_eq_true rfl) rfl ?_
  intro G p e s m args below meth c C hr hlk hnm
  refine v_iload_n C (pc' := 1) dX4_add_0 rfl rfl rfl ?_
  refine v_bipush C (pc' := 3) dX4_add_1 (v := (32 : Int32)) (by decide) rfl ?_
  refine v_icmp_lt C (tg := 24) (pc' := 6) dX4_add_3 (by decide) rfl (fun q1 => ?_) (fun q1 => ?_)
  · rw [if_pos q1] at E
    refine v_iconst C (pc' := 25) dX4_add_24 (v := (0 : Int32)) (by decide) rfl ?_
    cases E
    exact v_retz C hr hlk (Or.inl rfl) dX4_add_25
  · rw [if_neg q1] at E
    refine v_iload_n C (pc' := 7) dX4_add_6 rfl rfl rfl ?_
    refine v_bipush C (pc' := 9) dX4_add_7 (v := (126 : Int32)) (by decide) rfl ?_
    refine v_icmp_gt C (tg := 24) (pc' := 12) dX4_add_9 (by decide) rfl (fun q2 => ?_) (fun q2 => ?_)
    · rw [if_pos q2] at E
      refine v_iconst C (pc' := 25) dX4_add_24 (v := (0 : Int32)) (by decide) rfl ?_
      cases E
      exact v_retz C hr hlk (Or.inl rfl) dX4_add_25
    · rw [if_neg q2] at E
      refine v_aload_n C (pc' := 13) dX4_add_12 rfl rfl rfl ?_
      refine v_getI C (pc' := 16) fl_X4_15 rfl (Or.inl rfl) lv0_1 dX4_add_13 rfl ?_
      refine v_aload_n C (pc' := 17) dX4_add_16 rfl rfl rfl ?_
      refine v_getF C (pc' := 20) rfl fl_X4_9 rfl rfl (t2 := 2) rfl (j := 0) rfl u0_1 dX4_add_17 rfl ?_
      refine v_alen C (pc' := 21) (t := 2) rfl (by decide) lv0_2 (v := (32 : Int32)) (by decide) dX4_add_20 rfl ?_
      refine v_icmp_lt C (tg := 26) (pc' := 24) dX4_add_21 (by decide) rfl (fun q3 => ?_) (fun q3 => ?_)
      · rw [if_pos q3] at E
        refine v_aload_n C (pc' := 27) dX4_add_26 rfl rfl rfl ?_
        refine v_getF C (pc' := 30) rfl fl_X4_9 rfl rfl (t2 := 2) rfl (j := 0) rfl u0_1 dX4_add_27 rfl ?_
        refine v_aload_n C (pc' := 31) dX4_add_30 rfl rfl rfl ?_
        refine v_getI C (pc' := 34) fl_X4_15 rfl (Or.inl rfl) lv0_1 dX4_add_31 rfl ?_
        refine v_iload_n C (pc' := 35) dX4_add_34 rfl rfl rfl ?_
        obtain ⟨g4, E⟩ := guardB_some E
        refine v_cast C (pc' := 36) (t := 2) rfl lv0_2 g4 dX4_add_35 rfl ?_
        refine v_aload_n C (pc' := 37) dX4_add_36 rfl rfl rfl ?_
        refine v_dup C (pc' := 38) dX4_add_37 rfl rfl ?_
        refine v_getI C (pc' := 41) fl_X4_15 rfl (Or.inl rfl) lv0_1 dX4_add_38 rfl ?_
        refine v_iconst C (pc' := 42) dX4_add_41 (v := (1 : Int32)) (by decide) rfl ?_
        refine v_iadd C (pc' := 43) dX4_add_42 rfl ?_
        refine v_putI C (pc' := 46) fp_X4_15 rfl rfl lv0_1 dX4_add_43 rfl ?_
        refine v_iconst C (pc' := 47) dX4_add_46 (v := (1 : Int32)) (by decide) rfl ?_
        cases E
        exact v_retz C hr hlk (Or.inr rfl) dX4_add_47
      · rw [if_neg q3] at E
        refine v_iconst C (pc' := 25) dX4_add_24 (v := (0 : Int32)) (by decide) rfl ?_
        cases E
        exact v_retz C hr hlk (Or.inl rfl) dX4_add_25

def r_type (p1 : Int32) (h : Hp) : Option (Int32 × Hp) :=
  (line_add p1 h).bind fun y1 =>
  guardZ y1.1 <|
  some (y1.1, y1.2)
set_option maxHeartbeats 2000000 in
set_option maxRecDepth 20000 in
theorem c_r_type (l : Launch) (p1 : Int32) (h : Hp) (r : Int32) (h' : Hp)  (E : r_type p1 h = some (r, h')) : Ctr l yX12_type cX12_type 2 (some .boolean) 1 21 0 0 true [aA 0 (some 0), aI p1] h (some (aI r)) h' := by
  rw [r_type] at E
  refine Ctr.of (ls0 := [some (aA 0 (some 0)), some (aI p1)]) (by decide +kernel) (Nat.le_of_ble_eq_true rfl) rfl ?_
  intro G p e s m args below meth c C hr hlk hnm
  refine v_aload_n C (pc' := 1) dX12_type_0 rfl rfl rfl ?_
  refine v_getF C (pc' := 4) rfl fl_X12_10 rfl rfl (t2 := 1) rfl (j := 0) rfl u0_0 dX12_type_1 rfl ?_
  refine v_iload_n C (pc' := 5) dX12_type_4 rfl rfl rfl ?_
  obtain ⟨y1, hy1, E⟩ := bind_some E
  refine v_callV C (pc' := 8) (rest := []) (c_line_add l p1 h _ _ hy1) mv_X12_129 rfl rfl lv0_1 dX12_type_5 rfl rfl rfl ⟨Nat.le_of_ble_eq_true rfl, Nat.le_of_ble_eq_true rfl⟩ (Nat.le_of_ble_eq_true rfl) ⟨Nat.le_of_ble_eq_true rfl, Nat.le_of_ble_eq_true rfl⟩ ?_
  refine V.st (st' := [aI y1.1]) rfl ?_
  obtain ⟨z2, E⟩ := guardZ_some E
  cases E
  exact v_retz C hr hlk z2 dX12_type_8

def r_word_l2 (v1 : Int64) : Int32 × Hp → Option (((Int32 × Hp) ⊕ (Int32 × Hp)) ⊕ (Int32 × Hp))
  | (a3, h) =>
    if (8 : Int32) ≤ a3 then
      some (.inl (.inr (a3, h)))
    else
      (line_add (((v1.toUInt64 >>> (((8 : Int32) * a3).toInt64.toUInt64 &&& Int64.toUInt64 63)).toInt64 &&& (255 : Int64)).toInt32.toUInt32 % 65536).toInt32 h).bind fun y2 =>
      if y2.1 = 0 then
        some (.inl (.inl (a3, y2.2)))
      else
        some (.inr ((a3 + (1 : Int32)), y2.2))
def r_word (p1 : Int64) (h : Hp) : Option (Int32 × Hp) :=
  (iter (r_word_l2 p1) FU ((0 : Int32), h)).bind fun t4 =>
  t4.elim (fun r => some r) fun ut4 =>
  some ((8 : Int32), ut4.2)
set_option maxHeartbeats 2000000 in
set_option maxRecDepth 20000 in
theorem c_r_word (l : Launch) (p1 : Int64) (h : Hp) (r : Int32) (h' : Hp)  (E : r_word p1 h = some (r, h')) : Ctr l yX12_word cX12_word 5 (some .int) 1 21 0 0 true [aA 0 (some 0), aL p1] h (some (aI r)) h' := by
  rw [r_word] at E
  refine Ctr.of (ls0 := [some (aA 0 (some 0)), some (aL p1), none, none, none]) (by decide +kernel) (Nat.le_of_ble_eq_true rfl) rfl ?_
  intro G p e s m args below meth c C hr hlk hnm
  refine v_iconst C (pc' := 1) dX12_word_0 (v := (0 : Int32)) (by decide) rfl ?_
  refine v_istore3 C (pc' := 2) dX12_word_1 (by decide) rfl rfl ?_
  obtain ⟨t1, It1, E⟩ := bind_some E
  have Kt1 : ∀ ut1, t1 = .inr ut1 → V true G p l e { frames := 1, cells := 0, slots := 0, locals := 21 } s m args below meth c 5 (MQ below (QcA true G (some (aI r)) h') args s 0 0 (A_ G)) ut1.2 0 0 42 [some (aA 0 (some 0)), some (aL p1), none, some (aI ut1.1), none] [] := by
    intro ut1 hu
    rw [hu] at E
    simp only [Sum.elim_inr] at E
    refine v_bipush C (pc' := 44) dX12_word_42 (v := (8 : Int32)) (by decide) rfl ?_
    cases E
    exact v_reti C hr hlk dX12_word_44
  refine iter_V (P := fun st1 : Int32 × Hp => V true G p l e { frames := 1, cells := 0, slots := 0, locals := 21 } s m args below meth c 5 (MQ below (QcA true G (some (aI r)) h') args s 0 0 (A_ G)) st1.2 0 0 2 [some (aA 0 (some 0)), some (aL p1), none, some (aI st1.1), none] []) ?_ _ _ It1
  rintro ⟨a3t1, ht1⟩ ot1 Lt1 kxt1 kst1
  rw [r_word_l2] at Lt1
  show V true G p l e { frames := 1, cells := 0, slots := 0, locals := 21 } s m args below meth c 5 (MQ below (QcA true G (some (aI r)) h') args s 0 0 (A_ G)) ht1 0 0 2 [some (aA 0 (some 0)), some (aL p1), none, some (aI a3t1), none] []
  refine v_iload_n C (pc' := 3) dX12_word_2 rfl rfl rfl ?_
  refine v_bipush C (pc' := 5) dX12_word_3 (v := (8 : Int32)) (by decide) rfl ?_
  refine v_icmp_ge C (tg := 42) (pc' := 8) dX12_word_5 (by decide) rfl (fun q2 => ?_) (fun q2 => ?_)
  · rw [if_pos q2] at Lt1
    cases Lt1
    have z := kxt1 _ rfl
    exact Kt1 _ z.symm
  · rw [if_neg q2] at Lt1
    refine v_lload_n C (pc' := 9) dX12_word_8 rfl rfl rfl ?_
    refine v_bipush C (pc' := 11) dX12_word_9 (v := (8 : Int32)) (by decide) rfl ?_
    refine v_iload_n C (pc' := 12) dX12_word_11 rfl rfl rfl ?_
    refine v_imul C (pc' := 13) dX12_word_12 rfl ?_
    refine v_lushr C (pc' := 14) dX12_word_13 rfl ?_
    refine v_ldc2 C (pc' := 17) dX12_word_14 (v := (255 : Int64)) (TT_of (i := 498) (by decide +kernel) (by decide +kernel)) rfl ?_
    refine v_land C (pc' := 18) dX12_word_17 rfl ?_
    refine v_l2i C (pc' := 19) dX12_word_18 rfl ?_
    refine v_i2c C (pc' := 20) dX12_word_19 rfl ?_
    refine v_istore4 C (pc' := 22) dX12_word_20 (by decide) rfl rfl ?_
    refine v_aload_n C (pc' := 23) dX12_word_22 rfl rfl rfl ?_
    refine v_getF C (pc' := 26) rfl fl_X12_10 rfl rfl (t2 := 1) rfl (j := 0) rfl u0_0 dX12_word_23 rfl ?_
    refine v_iload C (pc' := 28) dX12_word_26 rfl rfl ?_
    obtain ⟨y3, hy3, Lt1⟩ := bind_some Lt1
    refine v_callV C (pc' := 31) (rest := []) (c_line_add l (((p1.toUInt64 >>> (((8 : Int32) * a3t1).toInt64.toUInt64 &&& Int64.toUInt64 63)).toInt64 &&& (255 : Int64)).toInt32.toUInt32 % 65536).toInt32 ht1 _ _ hy3) mv_X12_129 rfl rfl lv0_1 dX12_word_28 rfl rfl rfl ⟨Nat.le_of_ble_eq_true rfl, Nat.le_of_ble_eq_true rfl⟩ (Nat.le_of_ble_eq_true rfl) ⟨Nat.le_of_ble_eq_true rfl, Nat.le_of_ble_eq_true rfl⟩ ?_
    refine V.st (st' := [aI y3.1]) rfl ?_
    refine v_if_ne C (tg := 36) (pc' := 34) dX12_word_31 (by decide) rfl (fun q4 => ?_) (fun q4 => ?_)
    · rw [if_neg q4] at Lt1
      refine v_iinc3 C (pc' := 39) dX12_word_36 (v := (a3t1 + (1 : Int32))) (by rw [show Int32.ofInt 1 = (1 : Int32) by decide]) (by decide) rfl rfl ?_
      refine v_goto C (pc' := 2) dX12_word_39 (by decide) ?_
      cases Lt1
      exact V.ls (ms := [true, true, false, true, false]) rfl (kst1 _ rfl)
    · rw [if_pos q4] at Lt1
      refine v_iload_n C (pc' := 35) dX12_word_34 rfl rfl rfl ?_
      cases Lt1
      have z := kxt1 _ rfl
      rw [← z] at E
      simp only [Sum.elim_inl] at E
      cases E
      exact v_reti C hr hlk dX12_word_35
