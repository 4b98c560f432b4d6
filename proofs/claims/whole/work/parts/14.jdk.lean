def str_isLatin1 (th : Nat) (h : Hp) : Option Int32 :=
  (if (1 : Int32) = 0 then
    some (0 : Int32)
  else
    if (0 : Int32) = 0 then
      some (1 : Int32)
    else
      some (0 : Int32)).bind fun t2 =>
  guardZ t2 <|
  some t2
set_option maxHeartbeats 2000000 in
set_option maxRecDepth 20000 in
theorem c_str_isLatin1 (l : Launch) (th : Nat) (h : Hp) (r : Int32) (hth : th < 22) (E : str_isLatin1 th h = some r) : Ctr l yJ0_isLatin1_aae02 cJ0_isLatin1_aae02 1 (some .boolean) 0 0 0 0 true [aA 101 (some th)] h (some (aI r)) h := by
  rw [str_isLatin1] at E
  refine Ctr.of (ls0 := [some (aA 101 (some th))]) (by decide +kernel) (Nat.le_of_ble_eq_true rfl) rfl ?_
  intro G p e s m args below meth c C hr hlk hnm
  refine v_gsK C (pc' := 3) (TT_of (i := 534) (by decide +kernel) (by decide +kernel)) dJ0_isLatin1_aae02_0 rfl ?_
  obtain ⟨t2, At2, E⟩ := bind_some E
  have Kt2 : V true G p l e { frames := 0, cells := 0, slots := 0, locals := 0 } s m args below meth c 1 (MQ below (QcA true G (some (aI r)) h) args s 0 0 (A_ G)) h 0 0 18 [some (aA 101 (some th))] [aI t2] := by
    obtain ⟨z4, E⟩ := guardZ_some E
    cases E
    exact v_retz C hr hlk z4 dJ0_isLatin1_aae02_18
  refine v_if_eq C (tg := 17) (pc' := 6) dJ0_isLatin1_aae02_3 (by decide) rfl (fun q1 => ?_) (fun q1 => ?_)
  · rw [if_pos q1] at At2
    refine v_iconst C (pc' := 18) dJ0_isLatin1_aae02_17 (v := (0 : Int32)) (by decide) rfl ?_
    cases At2
    exact Kt2
  · rw [if_neg q1] at At2
    refine v_aload_n C (pc' := 7) dJ0_isLatin1_aae02_6 rfl rfl rfl ?_
    refine v_kCod C (pc' := 10) hth (TT_of (i := 1253) (by decide +kernel) (by decide +kernel)) dJ0_isLatin1_aae02_7 rfl ?_
    refine v_if_ne C (tg := 17) (pc' := 13) dJ0_isLatin1_aae02_10 (by decide) rfl (fun q3 => ?_) (fun q3 => ?_)
    · rw [if_neg q3] at At2
      refine v_iconst C (pc' := 18) dJ0_isLatin1_aae02_17 (v := (0 : Int32)) (by decide) rfl ?_
      cases At2
      exact Kt2
    · rw [if_pos q3] at At2
      refine v_iconst C (pc' := 14) dJ0_isLatin1_aae02_13 (v := (1 : Int32)) (by decide) rfl ?_
      refine v_goto C (pc' := 18) dJ0_isLatin1_aae02_14 (by decide) ?_
      cases At2
      exact Kt2

def pre_checkIndex (p0 : Int32) (p1 : Int32) (p2 : Option Nat) (h : Hp) : Option Int32 :=
  if p0 < 0 then
    none
  else
    if p0 < p1 then
      some p0
    else
      none
set_option maxHeartbeats 2000000 in
set_option maxRecDepth 20000 in
theorem c_pre_checkIndex (l : Launch) (p0 : Int32) (p1 : Int32) (p2 : Option Nat) (h : Hp) (r : Int32)  (E : pre_checkIndex p0 p1 p2 h = some r) : Ctr l yJ3_checkIndex_8e157 cJ3_checkIndex_8e157 3 (some .int) 0 0 0 0 true [aI p0, aI p1, aA 107 p2] h (some (aI r)) h := by
  rw [pre_checkIndex] at E
  refine Ctr.of (ls0 := [some (aI p0), some (aI p1), some (aA 107 p2)]) (by decide +kernel) (Nat.le_of_ble_eq_true rfl) rfl ?_
  intro G p e s m args below meth c C hr hlk hnm
  refine v_iload_n C (pc' := 1) dJ3_checkIndex_8e157_0 rfl rfl rfl ?_
  refine v_if_lt C (tg := 9) (pc' := 4) dJ3_checkIndex_8e157_1 (by decide) rfl (fun q1 => ?_) (fun q1 => ?_)
  · rw [if_pos q1] at E
    refine v_aload_n C (pc' := 10) dJ3_checkIndex_8e157_9 rfl rfl rfl ?_
    refine v_iload_n C (pc' := 11) dJ3_checkIndex_8e157_10 rfl rfl rfl ?_
    refine v_iload_n C (pc' := 12) dJ3_checkIndex_8e157_11 rfl rfl rfl ?_
    cases E
  · rw [if_neg q1] at E
    refine v_iload_n C (pc' := 5) dJ3_checkIndex_8e157_4 rfl rfl rfl ?_
    refine v_iload_n C (pc' := 6) dJ3_checkIndex_8e157_5 rfl rfl rfl ?_
    refine v_icmp_lt C (tg := 16) (pc' := 9) dJ3_checkIndex_8e157_6 (by decide) rfl (fun q2 => ?_) (fun q2 => ?_)
    · rw [if_pos q2] at E
      refine v_iload_n C (pc' := 17) dJ3_checkIndex_8e157_16 rfl rfl rfl ?_
      cases E
      exact v_reti C hr hlk dJ3_checkIndex_8e157_17
    · rw [if_neg q2] at E
      refine v_aload_n C (pc' := 10) dJ3_checkIndex_8e157_9 rfl rfl rfl ?_
      refine v_iload_n C (pc' := 11) dJ3_checkIndex_8e157_10 rfl rfl rfl ?_
      refine v_iload_n C (pc' := 12) dJ3_checkIndex_8e157_11 rfl rfl rfl ?_
      cases E

def str_checkIndex (p0 : Int32) (p1 : Int32) (h : Hp) : Option Unit :=
  (pre_checkIndex p0 p1 none h).bind fun y1 =>
  some ()
set_option maxHeartbeats 2000000 in
set_option maxRecDepth 20000 in
theorem c_str_checkIndex (l : Launch) (p0 : Int32) (p1 : Int32) (h : Hp)   (E : str_checkIndex p0 p1 h = some ()) : Ctr l yJ0_checkIndex_df160 cJ0_checkIndex_df160 2 none 1 22 0 0 true [aI p0, aI p1] h none h := by
  rw [str_checkIndex] at E
  refine Ctr.of (ls0 := [some (aI p0), some (aI p1)]) (by decide +kernel) (Nat.le_of_ble_eq_true rfl) rfl ?_
  intro G p e s m args below meth c C hr hlk hnm
  refine v_iload_n C (pc' := 1) dJ0_checkIndex_df160_0 rfl rfl rfl ?_
  refine v_iload_n C (pc' := 2) dJ0_checkIndex_df160_1 rfl rfl rfl ?_
  refine v_gsF C (pc' := 5) (TT_of (i := 557) (by decide +kernel) (by decide +kernel)) dJ0_checkIndex_df160_2 rfl (fun oof => ?_)
  obtain ⟨y1, hy1, E⟩ := bind_some E
  refine v_callS C (pc' := 8) (rest := []) (c_pre_checkIndex l p0 p1 oof h _ hy1) ms_J0_1059 dJ0_checkIndex_df160_5 rfl rfl rfl ⟨Nat.le_of_ble_eq_true rfl, Nat.le_of_ble_eq_true rfl⟩ (Nat.le_of_ble_eq_true rfl) ⟨Nat.le_of_ble_eq_true rfl, Nat.le_of_ble_eq_true rfl⟩ ?_
  refine V.st (st' := [aI y1]) rfl ?_
  refine v_pop C (pc' := 9) dJ0_checkIndex_df160_8 rfl rfl ?_
  cases E
  exact v_retv C hr hlk dJ0_checkIndex_df160_9

def sl1_charAt (p0 : Option Nat) (p1 : Int32) (h : Hp) : Option Int32 :=
  (nd 22 p0).bind fun x1 =>
  (str_checkIndex p1 (nI (sLen x1)) h).bind fun y2 =>
  guardB p1 (sLen x1) <|
  guardC (((sCh x1 p1.toNatClampNeg) &&& (255 : Int32)).toUInt32 % 65536).toInt32 <|
  some (((sCh x1 p1.toNatClampNeg) &&& (255 : Int32)).toUInt32 % 65536).toInt32
set_option maxHeartbeats 2000000 in
set_option maxRecDepth 20000 in
theorem c_sl1_charAt (l : Launch) (p0 : Option Nat) (p1 : Int32) (h : Hp) (r : Int32)  (E : sl1_charAt p0 p1 h = some r) : Ctr l yJ1_charAt_3b067 cJ1_charAt_3b067 2 (some .char) 2 43 0 0 true [aA 105 p0, aI p1] h (some (aI r)) h := by
  rw [sl1_charAt] at E
  refine Ctr.of (ls0 := [some (aA 105 p0), some (aI p1)]) (by decide +kernel) (Nat.le_of_ble_eq_true rfl) rfl ?_
  intro G p e s m args below meth c C hr hlk hnm
  refine v_iload_n C (pc' := 1) dJ1_charAt_3b067_0 rfl rfl rfl ?_
  refine v_aload_n C (pc' := 2) dJ1_charAt_3b067_1 rfl rfl rfl ?_
  obtain ⟨x1, hx1, E⟩ := bind_some E
  obtain ⟨hx1, bx1⟩ := nd_some hx1
  refine V.st (st' := [aA 105 (some x1), aI p1]) (by rw [hx1]) ?_
  refine v_alenB C (pc' := 3) bx1 dJ1_charAt_3b067_2 rfl ?_
  obtain ⟨y2, hy2, E⟩ := bind_some E
  refine v_callS C (pc' := 6) (rest := []) (c_str_checkIndex l p1 (nI (sLen x1)) h hy2) ms_J1_9 dJ1_charAt_3b067_3 rfl rfl rfl ⟨Nat.le_of_ble_eq_true rfl, Nat.le_of_ble_eq_true rfl⟩ (Nat.le_of_ble_eq_true rfl) ⟨Nat.le_of_ble_eq_true rfl, Nat.le_of_ble_eq_true rfl⟩ ?_
  refine V.st (st' := []) rfl ?_
  refine v_aload_n C (pc' := 7) dJ1_charAt_3b067_6 rfl rfl rfl ?_
  refine v_iload_n C (pc' := 8) dJ1_charAt_3b067_7 rfl rfl rfl ?_
  refine V.st (st' := [aI p1, aA 105 (some x1)]) (by rw [hx1]) ?_
  obtain ⟨g3, E⟩ := guardB_some E
  refine v_baldB C (pc' := 9) bx1 g3 dJ1_charAt_3b067_8 rfl ?_
  refine v_sipush C (pc' := 12) dJ1_charAt_3b067_9 (v := (255 : Int32)) (by decide) rfl ?_
  refine v_iand C (pc' := 13) dJ1_charAt_3b067_12 rfl ?_
  refine v_i2c C (pc' := 14) dJ1_charAt_3b067_13 rfl ?_
  obtain ⟨z4, E⟩ := guardC_some E
  cases E
  exact v_retc C hr hlk z4 dJ1_charAt_3b067_14

def str_charAt (th : Nat) (p1 : Int32) (h : Hp) : Option Int32 :=
  (str_isLatin1 th h).bind fun y1 =>
  if y1 = 0 then
    none
  else
    (sl1_charAt (some th) p1 h).bind fun y3 =>
    guardC y3 <|
    some y3
set_option maxHeartbeats 2000000 in
set_option maxRecDepth 20000 in
theorem c_str_charAt (l : Launch) (th : Nat) (p1 : Int32) (h : Hp) (r : Int32) (hth : th < 22) (E : str_charAt th p1 h = some r) : Ctr l yJ0_charAt_5068e cJ0_charAt_5068e 2 (some .char) 4 85 0 0 true [aA 101 (some th), aI p1] h (some (aI r)) h := by
  rw [str_charAt] at E
  refine Ctr.of (ls0 := [some (aA 101 (some th)), some (aI p1)]) (by decide +kernel) (Nat.le_of_ble_eq_true rfl) rfl ?_
  intro G p e s m args below meth c C hr hlk hnm
  refine v_aload_n C (pc' := 1) dJ0_charAt_5068e_0 rfl rfl rfl ?_
  obtain ⟨y1, hy1, E⟩ := bind_some E
  refine v_callKs C (pc' := 4) (rest := []) (c_str_isLatin1 l th h _ hth hy1) mv_J0_492 hth rfl dJ0_charAt_5068e_1 rfl rfl rfl ⟨Nat.le_of_ble_eq_true rfl, Nat.le_of_ble_eq_true rfl⟩ (Nat.le_of_ble_eq_true rfl) ⟨Nat.le_of_ble_eq_true rfl, Nat.le_of_ble_eq_true rfl⟩ ?_
  refine V.st (st' := [aI y1]) rfl ?_
  refine v_if_eq C (tg := 16) (pc' := 7) dJ0_charAt_5068e_4 (by decide) rfl (fun q2 => ?_) (fun q2 => ?_)
  · rw [if_pos q2] at E
    refine v_aload_n C (pc' := 17) dJ0_charAt_5068e_16 rfl rfl rfl ?_
    refine v_kVal C (pc' := 20) hth (TT_of (i := 1252) (by decide +kernel) (by decide +kernel)) dJ0_charAt_5068e_17 rfl ?_
    refine v_iload_n C (pc' := 21) dJ0_charAt_5068e_20 rfl rfl rfl ?_
    cases E
  · rw [if_neg q2] at E
    refine v_aload_n C (pc' := 8) dJ0_charAt_5068e_7 rfl rfl rfl ?_
    refine v_kVal C (pc' := 11) hth (TT_of (i := 1252) (by decide +kernel) (by decide +kernel)) dJ0_charAt_5068e_8 rfl ?_
    refine v_iload_n C (pc' := 12) dJ0_charAt_5068e_11 rfl rfl rfl ?_
    obtain ⟨y3, hy3, E⟩ := bind_some E
    refine v_callS C (pc' := 15) (rest := []) (c_sl1_charAt l (some th) p1 h _ hy3) ms_J0_495 dJ0_charAt_5068e_12 rfl rfl rfl ⟨Nat.le_of_ble_eq_true rfl, Nat.le_of_ble_eq_true rfl⟩ (Nat.le_of_ble_eq_true rfl) ⟨Nat.le_of_ble_eq_true rfl, Nat.le_of_ble_eq_true rfl⟩ ?_
    refine V.st (st' := [aI y3]) rfl ?_
    obtain ⟨z4, E⟩ := guardC_some E
    cases E
    exact v_retc C hr hlk z4 dJ0_charAt_5068e_15

def str_coder (th : Nat) (h : Hp) : Option Int32 :=
  (if (1 : Int32) = 0 then
    some (1 : Int32)
  else
    some (0 : Int32)).bind fun t2 =>
  guardY t2 <|
  some t2
set_option maxHeartbeats 2000000 in
set_option maxRecDepth 20000 in
theorem c_str_coder (l : Launch) (th : Nat) (h : Hp) (r : Int32) (hth : th < 22) (E : str_coder th h = some r) : Ctr l yJ0_coder_7d493 cJ0_coder_7d493 1 (some .byte) 0 0 0 0 true [aA 101 (some th)] h (some (aI r)) h := by
  rw [str_coder] at E
  refine Ctr.of (ls0 := [some (aA 101 (some th))]) (by decide +kernel) (Nat.le_of_ble_eq_true rfl) rfl ?_
  intro G p e s m args below meth c C hr hlk hnm
  refine v_gsK C (pc' := 3) (TT_of (i := 534) (by decide +kernel) (by decide +kernel)) dJ0_coder_7d493_0 rfl ?_
  obtain ⟨t2, At2, E⟩ := bind_some E
  have Kt2 : V true G p l e { frames := 0, cells := 0, slots := 0, locals := 0 } s m args below meth c 1 (MQ below (QcA true G (some (aI r)) h) args s 0 0 (A_ G)) h 0 0 14 [some (aA 101 (some th))] [aI t2] := by
    obtain ⟨z3, E⟩ := guardY_some E
    cases E
    exact v_rety C hr hlk z3 dJ0_coder_7d493_14
  refine v_if_eq C (tg := 13) (pc' := 6) dJ0_coder_7d493_3 (by decide) rfl (fun q1 => ?_) (fun q1 => ?_)
  · rw [if_pos q1] at At2
    refine v_iconst C (pc' := 14) dJ0_coder_7d493_13 (v := (1 : Int32)) (by decide) rfl ?_
    cases At2
    exact Kt2
  · rw [if_neg q1] at At2
    refine v_aload_n C (pc' := 7) dJ0_coder_7d493_6 rfl rfl rfl ?_
    refine v_kCod C (pc' := 10) hth (TT_of (i := 1253) (by decide +kernel) (by decide +kernel)) dJ0_coder_7d493_7 rfl ?_
    refine v_goto C (pc' := 14) dJ0_coder_7d493_10 (by decide) ?_
    cases At2
    exact Kt2

def str_length (th : Nat) (h : Hp) : Option Int32 :=
  (str_coder th h).bind fun y1 =>
  some ((nI (sLen th)) >>> (y1 &&& 31))
set_option maxHeartbeats 2000000 in
set_option maxRecDepth 20000 in
theorem c_str_length (l : Launch) (th : Nat) (h : Hp) (r : Int32) (hth : th < 22) (E : str_length th h = some r) : Ctr l yJ0_length_8abf5 cJ0_length_8abf5 1 (some .int) 1 20 0 0 true [aA 101 (some th)] h (some (aI r)) h := by
  rw [str_length] at E
  refine Ctr.of (ls0 := [some (aA 101 (some th))]) (by decide +kernel) (Nat.le_of_ble_eq_true rfl) rfl ?_
  intro G p e s m args below meth c C hr hlk hnm
  refine v_aload_n C (pc' := 1) dJ0_length_8abf5_0 rfl rfl rfl ?_
  refine v_kVal C (pc' := 4) hth (TT_of (i := 1252) (by decide +kernel) (by decide +kernel)) dJ0_length_8abf5_1 rfl ?_
  refine v_alenB C (pc' := 5) hth dJ0_length_8abf5_4 rfl ?_
  refine v_aload_n C (pc' := 6) dJ0_length_8abf5_5 rfl rfl rfl ?_
  obtain ⟨y1, hy1, E⟩ := bind_some E
  refine v_callKs C (pc' := 9) (rest := [aI (nI (sLen th))]) (c_str_coder l th h _ hth hy1) mv_J0_335 hth rfl dJ0_length_8abf5_6 rfl rfl rfl ⟨Nat.le_of_ble_eq_true rfl, Nat.le_of_ble_eq_true rfl⟩ (Nat.le_of_ble_eq_true rfl) ⟨Nat.le_of_ble_eq_true rfl, Nat.le_of_ble_eq_true rfl⟩ ?_
  refine V.st (st' := [aI y1, aI (nI (sLen th))]) rfl ?_
  refine v_ishr C (pc' := 10) dJ0_length_8abf5_9 rfl ?_
  cases E
  exact v_reti C hr hlk dJ0_length_8abf5_10

def obj_checkIndex (p0 : Int32) (p1 : Int32) (h : Hp) : Option Int32 :=
  (pre_checkIndex p0 p1 none h).bind fun y1 =>
  some y1
set_option maxHeartbeats 2000000 in
set_option maxRecDepth 20000 in
theorem c_obj_checkIndex (l : Launch) (p0 : Int32) (p1 : Int32) (h : Hp) (r : Int32)  (E : obj_checkIndex p0 p1 h = some r) : Ctr l yJ15_checkIndex_7cf53 cJ15_checkIndex_7cf53 2 (some .int) 1 22 0 0 true [aI p0, aI p1] h (some (aI r)) h := by
  rw [obj_checkIndex] at E
  refine Ctr.of (ls0 := [some (aI p0), some (aI p1)]) (by decide +kernel) (Nat.le_of_ble_eq_true rfl) rfl ?_
  intro G p e s m args below meth c C hr hlk hnm
  refine v_iload_n C (pc' := 1) dJ15_checkIndex_7cf53_0 rfl rfl rfl ?_
  refine v_iload_n C (pc' := 2) dJ15_checkIndex_7cf53_1 rfl rfl rfl ?_
  refine v_null C (pc' := 3) (t := 107) dJ15_checkIndex_7cf53_2 rfl ?_
  obtain ⟨y1, hy1, E⟩ := bind_some E
  refine v_callS C (pc' := 6) (rest := []) (c_pre_checkIndex l p0 p1 none h _ hy1) ms_J15_105 dJ15_checkIndex_7cf53_3 rfl rfl rfl ⟨Nat.le_of_ble_eq_true rfl, Nat.le_of_ble_eq_true rfl⟩ (Nat.le_of_ble_eq_true rfl) ⟨Nat.le_of_ble_eq_true rfl, Nat.le_of_ble_eq_true rfl⟩ ?_
  refine V.st (st' := [aI y1]) rfl ?_
  cases E
  exact v_reti C hr hlk dJ15_checkIndex_7cf53_6

def al_elementData (p1 : Int32) (h : Hp) : Option (Option Nat) :=
  guardE (gR h (7, 0) 1) h <|
  guardB p1 10 <|
  some (gR h (16, 1) p1.toNatClampNeg)
set_option maxHeartbeats 2000000 in
set_option maxRecDepth 20000 in
theorem c_al_elementData (l : Launch) (p1 : Int32) (h : Hp) (r : Option Nat)  (E : al_elementData p1 h = some r) : Ctr l yJx4a65c_elementData_915e3 cJx4a65c_elementData_915e3 2 (some (.object "java/lang/Object")) 0 0 0 0 true [aA 7 (some 0), aI p1] h (some (aA 15 r)) h := by
  rw [al_elementData] at E
  refine Ctr.of (ls0 := [some (aA 7 (some 0)), some (aI p1)]) (by decide +kernel) (Nat.le_of_ble_eq_true rfl) rfl ?_
  intro G p e s m args below meth c C hr hlk hnm
  refine v_aload_n C (pc' := 1) dJx4a65c_elementData_915e3_0 rfl rfl rfl ?_
  refine v_getR C (pc' := 4) fl_Jx4a65c_9 rfl rfl (t2 := 16) rfl lv0_7 dJx4a65c_elementData_915e3_1 rfl ?_
  refine v_iload_n C (pc' := 5) dJx4a65c_elementData_915e3_4 rfl rfl rfl ?_
  obtain ⟨hx2, lv3, E⟩ := guardE_some E
  refine V.st (st' := [aI p1, aA 16 (some 1)]) (by rw [hx2]) ?_
  obtain ⟨g1, E⟩ := guardB_some E
  refine v_aaldO C (pc' := 6) (t := 16) rfl lv3 g1 dJx4a65c_elementData_915e3_5 rfl ?_
  cases E
  exact v_reta C hr (Or.inl ⟨_, rfl⟩) hlk dJx4a65c_elementData_915e3_6

def al_get (p1 : Int32) (h : Hp) : Option (Option Nat) :=
  (obj_checkIndex p1 (gI h (7, 0) 2) h).bind fun y1 =>
  (al_elementData p1 h).bind fun y2 =>
  some y2
set_option maxHeartbeats 2000000 in
set_option maxRecDepth 20000 in
theorem c_al_get (l : Launch) (p1 : Int32) (h : Hp) (r : Option Nat)  (E : al_get p1 h = some r) : Ctr l yJx4a65c_get_915e3 cJx4a65c_get_915e3 2 (some (.object "java/lang/Object")) 2 43 0 0 true [aA 7 (some 0), aI p1] h (some (aA 15 r)) h := by
  rw [al_get] at E
  refine Ctr.of (ls0 := [some (aA 7 (some 0)), some (aI p1)]) (by decide +kernel) (Nat.le_of_ble_eq_true rfl) rfl ?_
  intro G p e s m args below meth c C hr hlk hnm
  refine v_iload_n C (pc' := 1) dJx4a65c_get_915e3_0 rfl rfl rfl ?_
  refine v_aload_n C (pc' := 2) dJx4a65c_get_915e3_1 rfl rfl rfl ?_
  refine v_getI C (pc' := 5) fl_Jx4a65c_48 rfl (Or.inl rfl) lv0_7 dJx4a65c_get_915e3_2 rfl ?_
  obtain ⟨y1, hy1, E⟩ := bind_some E
  refine v_callS C (pc' := 8) (rest := []) (c_obj_checkIndex l p1 (gI h (7, 0) 2) h _ hy1) ms_Jx4a65c_118 dJx4a65c_get_915e3_5 rfl rfl rfl ⟨Nat.le_of_ble_eq_true rfl, Nat.le_of_ble_eq_true rfl⟩ (Nat.le_of_ble_eq_true rfl) ⟨Nat.le_of_ble_eq_true rfl, Nat.le_of_ble_eq_true rfl⟩ ?_
  refine V.st (st' := [aI y1]) rfl ?_
  refine v_pop C (pc' := 9) dJx4a65c_get_915e3_8 rfl rfl ?_
  refine v_aload_n C (pc' := 10) dJx4a65c_get_915e3_9 rfl rfl rfl ?_
  refine v_iload_n C (pc' := 11) dJx4a65c_get_915e3_10 rfl rfl rfl ?_
  obtain ⟨y2, hy2, E⟩ := bind_some E
  refine v_callV C (pc' := 14) (rest := []) (c_al_elementData l p1 h _ hy2) mv_Jx4a65c_123 rfl rfl lv0_7 dJx4a65c_get_915e3_11 rfl rfl rfl ⟨Nat.le_of_ble_eq_true rfl, Nat.le_of_ble_eq_true rfl⟩ (Nat.le_of_ble_eq_true rfl) ⟨Nat.le_of_ble_eq_true rfl, Nat.le_of_ble_eq_true rfl⟩ ?_
  refine V.st (st' := [aA 15 y2]) rfl ?_
  cases E
  exact v_reta C hr (Or.inl ⟨_, rfl⟩) hlk dJx4a65c_get_915e3_14

def al_size  (h : Hp) : Option Int32 :=
  some (gI h (7, 0) 2)
set_option maxHeartbeats 2000000 in
set_option maxRecDepth 20000 in
theorem c_al_size (l : Launch)  (h : Hp) (r : Int32)  (E : al_size  h = some r) : Ctr l yJx4a65c_size_8abf5 cJx4a65c_size_8abf5 1 (some .int) 0 0 0 0 true [aA 7 (some 0)] h (some (aI r)) h := by
  rw [al_size] at E
  refine Ctr.of (ls0 := [some (aA 7 (some 0))]) (by decide +kernel) (Nat.le_of_ble_eq_true rfl) rfl ?_
  intro G p e s m args below meth c C hr hlk hnm
  refine v_aload_n C (pc' := 1) dJx4a65c_size_8abf5_0 rfl rfl rfl ?_
  refine v_getI C (pc' := 4) fl_Jx4a65c_48 rfl (Or.inl rfl) lv0_7 dJx4a65c_size_8abf5_1 rfl ?_
  cases E
  exact v_reti C hr hlk dJx4a65c_size_8abf5_4
