def law_l18 (xs : Nat → Int32) (L : Nat) : Int32 × Hp → Option ((Int32 ⊕ (Int32 × Hp)) ⊕ (Int32 × Hp))
  | (a3, h) =>
    if ((Int32.ofNat L) - (5 : Int32)) < a3 then
      some (.inl (.inr (a3, h)))
    else
      guardB a3 L <|
      if ((xs a3.toNatClampNeg) &&& (15 : Int32)) = (0 : Int32) then
        guardB (a3 + (1 : Int32)) L <|
        guardB (a3 + (2 : Int32)) L <|
        guardB (a3 + (3 : Int32)) L <|
        guardB (a3 + (4 : Int32)) L <|
        (r_account (((xs (a3 + (1 : Int32)).toNatClampNeg).toInt64 <<< ((32 : Int32).toInt64 &&& 63)) ||| ((xs (a3 + (2 : Int32)).toNatClampNeg).toInt64 &&& (4294967295 : Int64))) (((xs (a3 + (3 : Int32)).toNatClampNeg).toInt64 <<< ((32 : Int32).toInt64 &&& 63)) ||| ((xs (a3 + (4 : Int32)).toNatClampNeg).toInt64 &&& (4294967295 : Int64))) h).bind fun y8 =>
        guardB (a3 + (1 : Int32)) L <|
        guardB (a3 + (2 : Int32)) L <|
        guardB (a3 + (3 : Int32)) L <|
        guardB (a3 + (4 : Int32)) L <|
        (m_account (((xs (a3 + (1 : Int32)).toNatClampNeg).toInt64 <<< ((32 : Int32).toInt64 &&& 63)) ||| ((xs (a3 + (2 : Int32)).toNatClampNeg).toInt64 &&& (4294967295 : Int64))) (((xs (a3 + (3 : Int32)).toNatClampNeg).toInt64 <<< ((32 : Int32).toInt64 &&& 63)) ||| ((xs (a3 + (4 : Int32)).toNatClampNeg).toInt64 &&& (4294967295 : Int64))) y8.2).bind fun y13 =>
        if y8.1 = y13.1 then
          some (.inr ((a3 + (5 : Int32)), y13.2))
        else
          some (.inl (.inl (0 : Int32)))
      else
      if ((xs a3.toNatClampNeg) &&& (15 : Int32)) = (1 : Int32) then
        (r_open h).bind fun y16 =>
        (m_open y16.2).bind fun y17 =>
        if y16.1 = y17.1 then
          some (.inr ((a3 + (5 : Int32)), y17.2))
        else
          some (.inl (.inl (0 : Int32)))
      else
      if ((xs a3.toNatClampNeg) &&& (15 : Int32)) = (2 : Int32) then
        guardB (a3 + (1 : Int32)) L <|
        (r_type ((xs (a3 + (1 : Int32)).toNatClampNeg).toUInt32 % 65536).toInt32 h).bind fun y21 =>
        guardB (a3 + (1 : Int32)) L <|
        (m_type ((xs (a3 + (1 : Int32)).toNatClampNeg).toUInt32 % 65536).toInt32 y21.2).bind fun y23 =>
        if y21.1 = y23.1 then
          some (.inr ((a3 + (5 : Int32)), y23.2))
        else
          some (.inl (.inl (0 : Int32)))
      else
      if ((xs a3.toNatClampNeg) &&& (15 : Int32)) = (3 : Int32) then
        guardB (a3 + (1 : Int32)) L <|
        guardB (a3 + (2 : Int32)) L <|
        (r_word (((xs (a3 + (1 : Int32)).toNatClampNeg).toInt64 <<< ((32 : Int32).toInt64 &&& 63)) ||| ((xs (a3 + (2 : Int32)).toNatClampNeg).toInt64 &&& (4294967295 : Int64))) h).bind fun y28 =>
        guardB (a3 + (1 : Int32)) L <|
        guardB (a3 + (2 : Int32)) L <|
        (m_word (((xs (a3 + (1 : Int32)).toNatClampNeg).toInt64 <<< ((32 : Int32).toInt64 &&& 63)) ||| ((xs (a3 + (2 : Int32)).toNatClampNeg).toInt64 &&& (4294967295 : Int64))) y28.2).bind fun y31 =>
        if y28.1 = y31.1 then
          some (.inr ((a3 + (5 : Int32)), y31.2))
        else
          some (.inl (.inl (0 : Int32)))
      else
      if ((xs a3.toNatClampNeg) &&& (15 : Int32)) = (4 : Int32) then
        (r_enter h).bind fun y34 =>
        (m_enter y34.2).bind fun y35 =>
        if y34.1 = y35.1 then
          some (.inr ((a3 + (5 : Int32)), y35.2))
        else
          some (.inl (.inl (0 : Int32)))
      else
      if ((xs a3.toNatClampNeg) &&& (15 : Int32)) = (5 : Int32) then
        (r_reply h).bind fun y38 =>
        (m_reply h).bind fun y39 =>
        if y38 = y39 then
          some (.inr ((a3 + (5 : Int32)), h))
        else
          some (.inl (.inl (0 : Int32)))
      else
      if ((xs a3.toNatClampNeg) &&& (15 : Int32)) = (6 : Int32) then
        guardB (a3 + (1 : Int32)) L <|
        (r_text (xs (a3 + (1 : Int32)).toNatClampNeg) h).bind fun y43 =>
        guardB (a3 + (1 : Int32)) L <|
        (m_text (xs (a3 + (1 : Int32)).toNatClampNeg) h).bind fun y45 =>
        if y43 = y45 then
          some (.inr ((a3 + (5 : Int32)), h))
        else
          some (.inl (.inl (0 : Int32)))
      else
      if ((xs a3.toNatClampNeg) &&& (15 : Int32)) = (7 : Int32) then
        (r_join h).bind fun y48 =>
        (m_join y48.2).bind fun y49 =>
        if y48.1 = y49.1 then
          some (.inr ((a3 + (5 : Int32)), y49.2))
        else
          some (.inl (.inl (0 : Int32)))
      else
      if ((xs a3.toNatClampNeg) &&& (15 : Int32)) = (8 : Int32) then
        guardB (a3 + (1 : Int32)) L <|
        (r_listen (xs (a3 + (1 : Int32)).toNatClampNeg) h).bind fun y53 =>
        guardB (a3 + (1 : Int32)) L <|
        (m_listen (xs (a3 + (1 : Int32)).toNatClampNeg) y53.2).bind fun y55 =>
        if y53.1 = y55.1 then
          some (.inr ((a3 + (5 : Int32)), y55.2))
        else
          some (.inl (.inl (0 : Int32)))
      else
      if ((xs a3.toNatClampNeg) &&& (15 : Int32)) = (9 : Int32) then
        (r_take h).bind fun y58 =>
        (m_take y58.2).bind fun y59 =>
        if y58.1 = y59.1 then
          some (.inr ((a3 + (5 : Int32)), y59.2))
        else
          some (.inl (.inl (0 : Int32)))
      else
      if ((xs a3.toNatClampNeg) &&& (15 : Int32)) = (10 : Int32) then
        guardB (a3 + (1 : Int32)) L <|
        (r_give (xs (a3 + (1 : Int32)).toNatClampNeg) h).bind fun y63 =>
        guardB (a3 + (1 : Int32)) L <|
        (m_give (xs (a3 + (1 : Int32)).toNatClampNeg) y63.2).bind fun y65 =>
        if y63.1 = y65.1 then
          some (.inr ((a3 + (5 : Int32)), y65.2))
        else
          some (.inl (.inl (0 : Int32)))
      else
      if ((xs a3.toNatClampNeg) &&& (15 : Int32)) = (11 : Int32) then
        (r_end h).bind fun y68 =>
        (m_end y68.2).bind fun y69 =>
        if y68.1 = y69.1 then
          some (.inr ((a3 + (5 : Int32)), y69.2))
        else
          some (.inl (.inl (0 : Int32)))
      else
      if ((xs a3.toNatClampNeg) &&& (15 : Int32)) = (12 : Int32) then
        (r_transfer h).bind fun y72 =>
        (m_transfer h).bind fun y73 =>
        if y72 = y73 then
          some (.inr ((a3 + (5 : Int32)), h))
        else
          some (.inl (.inl (0 : Int32)))
      else
      if ((xs a3.toNatClampNeg) &&& (15 : Int32)) = (13 : Int32) then
        (r_nodes h).bind fun y76 =>
        (m_nodes h).bind fun y77 =>
        if y76 = y77 then
          some (.inr ((a3 + (5 : Int32)), h))
        else
          some (.inl (.inl (0 : Int32)))
      else
      if ((xs a3.toNatClampNeg) &&& (15 : Int32)) = (14 : Int32) then
        (r_bytes h).bind fun y80 =>
        (m_bytes h).bind fun y81 =>
        if y80 = y81 then
          some (.inr ((a3 + (5 : Int32)), h))
        else
          some (.inl (.inl (0 : Int32)))
      else
      some (.inr ((a3 + (5 : Int32)), h))
def law_f (xs : Nat → Int32) (L : Nat) (h : Hp) : Option Int32 :=
  (iter (law_l18 xs L) FU ((0 : Int32), h)).bind fun t83 =>
  t83.elim (fun r => some r) fun ut83 =>
  some (1 : Int32)
section LAWX
variable {p : Program} {l : Launch} {e : Env} {R : Room} {s : State} {m : MethodId} {below : List Frame} {meth : Method} {c : Code} {G : GG} {b L : Nat} {xs : Nat → Int32} {h : Hp} {Q : State → Prop} {args : Array Value} {nL : Nat} {ph : Bool} {cells slots pc pc' : Nat} {ls : List (Option AV)} {st : List AV} {cc : ByteArray} {own : String}
theorem v_xlen (C : Cx G p s m c args cc nL own) (hX : va_X b L xs s s.heap) (hbl : b < s.heap.size) (hbA : ¬ A_ G b) (hb8 : loc G (108, 0) = b) (hd : decode cc pc = .ok (.arraylength, 1)) (hp : pc + 1 = pc') (kk : V ph G p l e R s m args below meth c nL Q h cells slots pc' ls (aI (Int32.ofNat L) :: st)) : V ph G p l e R s m args below meth c nL Q h cells slots pc ls (aA 108 (some 0) :: st) := by
  subst hp
  subst hb8
  exact fun H locs LS a hS d => va_slen C.1 C.2.1 hX hbl hbA hS hd (kk H locs LS a hS d)
theorem v_xld (C : Cx G p s m c args cc nL own) (hX : va_X b L xs s s.heap) (hbl : b < s.heap.size) (hbA : ¬ A_ G b) (hb8 : loc G (108, 0) = b) {x : Int32} (hin : inB x L = true) (hd : decode cc pc = .ok (.iaload, 1)) (hp : pc + 1 = pc') (kk : V ph G p l e R s m args below meth c nL Q h cells slots pc' ls (aI (xs x.toNatClampNeg) :: st)) : V ph G p l e R s m args below meth c nL Q h cells slots pc ls (aI x :: aA 108 (some 0) :: st) := by
  subst hp
  subst hb8
  exact fun H locs LS a hS d => va_sld C.1 C.2.1 hX hbl hbA hS (inB_vp hin) hd (kk H locs LS a hS d)
theorem law_end (C : Cx G p s m c #[Value.ref b] code 4 RL) (hr : meth.sig.returnType = Jvm.Pilot.CRootedFerryLaw_law_r6308_fb8801.ret) (hlk : meth.locks = false) (hGb : G.1 = s.heap.size) (hc : cells ≤ 600000) (hs : slots ≤ 7302250) (hd : decode code pc = .ok (.ireturn, 1)) : V ph G p l e room_1 s m #[Value.ref b] below meth c 4 (lw_Z below #[Value.ref b] s) h cells slots pc ls [aI 1] := by
  intro H locs LS a hS d
  refine va_forget (fun q hq => ?_) (W.widen hc hs (lw_ret C.1 C.2.1 hr hlk hd))
  have := hS.2.2 q hq
  rw [← hGb]
  exact this
end LAWX
theorem i5 {i : Int32} {L : Nat} (h : inB i L = true) (hL : L ≤ 320) : (i + (5 : Int32)).toNatClampNeg = i.toNatClampNeg + 5 := by
  obtain ⟨j, hj, rfl⟩ := vp_in_of (inB_vp h) (by omega)
  rw [show (5 : Int32) = nI 5 from rfl, nI_add, nI_clamp (by omega), nI_clamp (by omega)]
set_option maxHeartbeats 4000000 in
set_option maxRecDepth 20000 in
theorem law_walk {p : Program} {l : Launch} {e : Env} {s : State} {m : MethodId} {below : List Frame} {meth : Method} {c : Code} {G : GG} {b L : Nat} {xs : Nat → Int32} (h : Hp) (hL : L ≤ 320) (C : Cx G p s m c #[Value.ref b] code 4 RL) (hr : meth.sig.returnType = Jvm.Pilot.CRootedFerryLaw_law_r6308_fb8801.ret) (hlk : meth.locks = false) (hX : va_X b L xs s s.heap) (hbl : b < s.heap.size) (hbA : ¬ A_ G b) (hb8 : loc G (108, 0) = b) (hGb : G.1 = s.heap.size) (E : law_f xs L h = some (1 : Int32)) : V true G p l e room_1 s m #[Value.ref b] below meth c 4 (lw_Z below #[Value.ref b] s) h 100 3000 16 [some (aA 108 (some 0)), some (aA 0 (some 0)), some (aA 20 (some 0)), none] [] := by
  rw [law_f] at E
  refine v_iconst C (pc' := 17) dL_law_16 (v := (0 : Int32)) (by decide) rfl ?_
  refine v_istore3 C (pc' := 18) dL_law_17 (by decide) rfl rfl ?_
  obtain ⟨t1, It1, E⟩ := bind_some E
  have Kt1 : ∀ ut1, t1 = .inr ut1 → ut1.1.toNatClampNeg ≤ 330 → V true G p l e room_1 s m #[Value.ref b] below meth c 4 (lw_Z below #[Value.ref b] s) ut1.2 (100 + 2 * ut1.1.toNatClampNeg) (3000 + 13 * ut1.1.toNatClampNeg) 471 [some (aA 108 (some 0)), some (aA 0 (some 0)), some (aA 20 (some 0)), some (aI ut1.1)] [] := by
    intro ut1 hu hb0
    rw [hu] at E
    simp only [Sum.elim_inr] at E
    refine v_iconst C (pc' := 472) dL_law_471 (v := (1 : Int32)) (by decide) rfl ?_
    exact law_end C hr hlk hGb (by omega) (by omega) dL_law_472
  refine V.widen (ce := 100 + 2 * (0 : Int32).toNatClampNeg) (sl := 3000 + 13 * (0 : Int32).toNatClampNeg) (by decide) (by decide) ?_
  refine iter_V (P := fun st1 : Int32 × Hp => st1.1.toNatClampNeg ≤ 330 → V true G p l e room_1 s m #[Value.ref b] below meth c 4 (lw_Z below #[Value.ref b] s) st1.2 (100 + 2 * st1.1.toNatClampNeg) (3000 + 13 * st1.1.toNatClampNeg) 18 [some (aA 108 (some 0)), some (aA 0 (some 0)), some (aA 20 (some 0)), some (aI st1.1)] []) ?_ _ _ It1 (by show (0 : Int32).toNatClampNeg ≤ 330; decide)
  rintro ⟨a3t1, ht1⟩ ot1 Lt1 kxt1 kst1
  rw [law_l18] at Lt1
  intro hb0
  show V true G p l e room_1 s m #[Value.ref b] below meth c 4 (lw_Z below #[Value.ref b] s) ht1 (100 + 2 * a3t1.toNatClampNeg) (3000 + 13 * a3t1.toNatClampNeg) 18 [some (aA 108 (some 0)), some (aA 0 (some 0)), some (aA 20 (some 0)), some (aI a3t1)] []
  refine v_iload_n C (pc' := 19) dL_law_18 rfl rfl rfl ?_
  refine v_aload_n C (pc' := 20) dL_law_19 rfl rfl rfl ?_
  refine v_xlen C (pc' := 21) hX hbl hbA hb8 dL_law_20 rfl ?_
  refine v_iconst C (pc' := 22) dL_law_21 (v := (5 : Int32)) (by decide) rfl ?_
  refine v_isub C (pc' := 23) dL_law_22 rfl ?_
  refine v_icmp_gt C (tg := 471) (pc' := 26) dL_law_23 (by decide) rfl (fun q2 => ?_) (fun q2 => ?_)
  · rw [if_pos q2] at Lt1
    cases Lt1
    have z := kxt1 _ rfl
    exact Kt1 _ z.symm hb0
  · rw [if_neg q2] at Lt1
    refine v_aload_n C (pc' := 27) dL_law_26 rfl rfl rfl ?_
    refine v_iload_n C (pc' := 28) dL_law_27 rfl rfl rfl ?_
    obtain ⟨g3, Lt1⟩ := guardB_some Lt1
    have hI : a3t1.toNatClampNeg < 320 := Nat.lt_of_lt_of_le (inB_lt g3) hL
    refine v_xld C (pc' := 29) hX hbl hbA hb8 g3 dL_law_28 rfl ?_
    refine v_bipush C (pc' := 31) dL_law_29 (v := (15 : Int32)) (by decide) rfl ?_
    refine v_iand C (pc' := 32) dL_law_31 rfl ?_
    by_cases q4 : ((xs a3t1.toNatClampNeg) &&& (15 : Int32)) = (0 : Int32)
    · rw [if_pos q4] at Lt1
      refine v_tabIn C (pc' := 108) dL_law_32 (by rw [q4]; decide) (by rw [q4]; decide) (off := 76) (by rw [q4]; decide) (by decide) ?_
      refine v_aload_n C (pc' := 109) dL_law_108 rfl rfl rfl ?_
      refine v_aload_n C (pc' := 110) dL_law_109 rfl rfl rfl ?_
      refine v_iload_n C (pc' := 111) dL_law_110 rfl rfl rfl ?_
      refine v_iconst C (pc' := 112) dL_law_111 (v := (1 : Int32)) (by decide) rfl ?_
      refine v_iadd C (pc' := 113) dL_law_112 rfl ?_
      obtain ⟨g5, Lt1⟩ := guardB_some Lt1
      refine v_xld C (pc' := 114) hX hbl hbA hb8 g5 dL_law_113 rfl ?_
      refine v_i2l C (pc' := 115) dL_law_114 rfl ?_
      refine v_bipush C (pc' := 117) dL_law_115 (v := (32 : Int32)) (by decide) rfl ?_
      refine v_lshl C (pc' := 118) dL_law_117 rfl ?_
      refine v_aload_n C (pc' := 119) dL_law_118 rfl rfl rfl ?_
      refine v_iload_n C (pc' := 120) dL_law_119 rfl rfl rfl ?_
      refine v_iconst C (pc' := 121) dL_law_120 (v := (2 : Int32)) (by decide) rfl ?_
      refine v_iadd C (pc' := 122) dL_law_121 rfl ?_
      obtain ⟨g6, Lt1⟩ := guardB_some Lt1
      refine v_xld C (pc' := 123) hX hbl hbA hb8 g6 dL_law_122 rfl ?_
      refine v_i2l C (pc' := 124) dL_law_123 rfl ?_
      refine v_ldc2 C (pc' := 127) dL_law_124 (v := (4294967295 : Int64)) (TT_of (i := 1228) (by decide +kernel) (by decide +kernel)) rfl ?_
      refine v_land C (pc' := 128) dL_law_127 rfl ?_
      refine v_lor C (pc' := 129) dL_law_128 rfl ?_
      refine v_aload_n C (pc' := 130) dL_law_129 rfl rfl rfl ?_
      refine v_iload_n C (pc' := 131) dL_law_130 rfl rfl rfl ?_
      refine v_iconst C (pc' := 132) dL_law_131 (v := (3 : Int32)) (by decide) rfl ?_
      refine v_iadd C (pc' := 133) dL_law_132 rfl ?_
      obtain ⟨g7, Lt1⟩ := guardB_some Lt1
      refine v_xld C (pc' := 134) hX hbl hbA hb8 g7 dL_law_133 rfl ?_
      refine v_i2l C (pc' := 135) dL_law_134 rfl ?_
      refine v_bipush C (pc' := 137) dL_law_135 (v := (32 : Int32)) (by decide) rfl ?_
      refine v_lshl C (pc' := 138) dL_law_137 rfl ?_
      refine v_aload_n C (pc' := 139) dL_law_138 rfl rfl rfl ?_
      refine v_iload_n C (pc' := 140) dL_law_139 rfl rfl rfl ?_
      refine v_iconst C (pc' := 141) dL_law_140 (v := (4 : Int32)) (by decide) rfl ?_
      refine v_iadd C (pc' := 142) dL_law_141 rfl ?_
      obtain ⟨g8, Lt1⟩ := guardB_some Lt1
      refine v_xld C (pc' := 143) hX hbl hbA hb8 g8 dL_law_142 rfl ?_
      refine v_i2l C (pc' := 144) dL_law_143 rfl ?_
      refine v_ldc2 C (pc' := 147) dL_law_144 (v := (4294967295 : Int64)) (TT_of (i := 1228) (by decide +kernel) (by decide +kernel)) rfl ?_
      refine v_land C (pc' := 148) dL_law_147 rfl ?_
      refine v_lor C (pc' := 149) dL_law_148 rfl ?_
      obtain ⟨y9, hy9, Lt1⟩ := bind_some Lt1
      refine v_callV C (pc' := 152) (rest := []) (c_r_account l (((xs (a3t1 + (1 : Int32)).toNatClampNeg).toInt64 <<< ((32 : Int32).toInt64 &&& 63)) ||| ((xs (a3t1 + (2 : Int32)).toNatClampNeg).toInt64 &&& (4294967295 : Int64))) (((xs (a3t1 + (3 : Int32)).toNatClampNeg).toInt64 <<< ((32 : Int32).toInt64 &&& 63)) ||| ((xs (a3t1 + (4 : Int32)).toNatClampNeg).toInt64 &&& (4294967295 : Int64))) ht1 _ _ hy9) mv_L_15 rfl rfl lv0_0 dL_law_149 rfl rfl rfl ⟨Nat.le_of_ble_eq_true rfl, Nat.le_of_ble_eq_true rfl⟩ (Nat.le_of_ble_eq_true rfl) ⟨by simp only [room_1]; omega, by simp only [room_1]; omega⟩ ?_
      refine V.st (st' := [aI y9.1]) rfl ?_
      refine v_aload_n C (pc' := 153) dL_law_152 rfl rfl rfl ?_
      refine v_aload_n C (pc' := 154) dL_law_153 rfl rfl rfl ?_
      refine v_iload_n C (pc' := 155) dL_law_154 rfl rfl rfl ?_
      refine v_iconst C (pc' := 156) dL_law_155 (v := (1 : Int32)) (by decide) rfl ?_
      refine v_iadd C (pc' := 157) dL_law_156 rfl ?_
      obtain ⟨g10, Lt1⟩ := guardB_some Lt1
      refine v_xld C (pc' := 158) hX hbl hbA hb8 g10 dL_law_157 rfl ?_
      refine v_i2l C (pc' := 159) dL_law_158 rfl ?_
      refine v_bipush C (pc' := 161) dL_law_159 (v := (32 : Int32)) (by decide) rfl ?_
      refine v_lshl C (pc' := 162) dL_law_161 rfl ?_
      refine v_aload_n C (pc' := 163) dL_law_162 rfl rfl rfl ?_
      refine v_iload_n C (pc' := 164) dL_law_163 rfl rfl rfl ?_
      refine v_iconst C (pc' := 165) dL_law_164 (v := (2 : Int32)) (by decide) rfl ?_
      refine v_iadd C (pc' := 166) dL_law_165 rfl ?_
      obtain ⟨g11, Lt1⟩ := guardB_some Lt1
      refine v_xld C (pc' := 167) hX hbl hbA hb8 g11 dL_law_166 rfl ?_
      refine v_i2l C (pc' := 168) dL_law_167 rfl ?_
      refine v_ldc2 C (pc' := 171) dL_law_168 (v := (4294967295 : Int64)) (TT_of (i := 1228) (by decide +kernel) (by decide +kernel)) rfl ?_
      refine v_land C (pc' := 172) dL_law_171 rfl ?_
      refine v_lor C (pc' := 173) dL_law_172 rfl ?_
      refine v_aload_n C (pc' := 174) dL_law_173 rfl rfl rfl ?_
      refine v_iload_n C (pc' := 175) dL_law_174 rfl rfl rfl ?_
      refine v_iconst C (pc' := 176) dL_law_175 (v := (3 : Int32)) (by decide) rfl ?_
      refine v_iadd C (pc' := 177) dL_law_176 rfl ?_
      obtain ⟨g12, Lt1⟩ := guardB_some Lt1
      refine v_xld C (pc' := 178) hX hbl hbA hb8 g12 dL_law_177 rfl ?_
      refine v_i2l C (pc' := 179) dL_law_178 rfl ?_
      refine v_bipush C (pc' := 181) dL_law_179 (v := (32 : Int32)) (by decide) rfl ?_
      refine v_lshl C (pc' := 182) dL_law_181 rfl ?_
      refine v_aload_n C (pc' := 183) dL_law_182 rfl rfl rfl ?_
      refine v_iload_n C (pc' := 184) dL_law_183 rfl rfl rfl ?_
      refine v_iconst C (pc' := 185) dL_law_184 (v := (4 : Int32)) (by decide) rfl ?_
      refine v_iadd C (pc' := 186) dL_law_185 rfl ?_
      obtain ⟨g13, Lt1⟩ := guardB_some Lt1
      refine v_xld C (pc' := 187) hX hbl hbA hb8 g13 dL_law_186 rfl ?_
      refine v_i2l C (pc' := 188) dL_law_187 rfl ?_
      refine v_ldc2 C (pc' := 191) dL_law_188 (v := (4294967295 : Int64)) (TT_of (i := 1228) (by decide +kernel) (by decide +kernel)) rfl ?_
      refine v_land C (pc' := 192) dL_law_191 rfl ?_
      refine v_lor C (pc' := 193) dL_law_192 rfl ?_
      obtain ⟨y14, hy14, Lt1⟩ := bind_some Lt1
      refine v_callV C (pc' := 196) (rest := [aI y9.1]) (c_m_account l (((xs (a3t1 + (1 : Int32)).toNatClampNeg).toInt64 <<< ((32 : Int32).toInt64 &&& 63)) ||| ((xs (a3t1 + (2 : Int32)).toNatClampNeg).toInt64 &&& (4294967295 : Int64))) (((xs (a3t1 + (3 : Int32)).toNatClampNeg).toInt64 <<< ((32 : Int32).toInt64 &&& 63)) ||| ((xs (a3t1 + (4 : Int32)).toNatClampNeg).toInt64 &&& (4294967295 : Int64))) y9.2 _ _ hy14) mv_L_19 rfl rfl lv0_20 dL_law_193 rfl rfl rfl ⟨Nat.le_of_ble_eq_true rfl, Nat.le_of_ble_eq_true rfl⟩ (Nat.le_of_ble_eq_true rfl) ⟨by simp only [room_1]; omega, by simp only [room_1]; omega⟩ ?_
      refine V.st (st' := [aI y14.1, aI y9.1]) rfl ?_
      refine v_icmp_eq C (tg := 465) (pc' := 199) dL_law_196 (by decide) rfl (fun q15 => ?_) (fun q15 => ?_)
      · rw [if_pos q15] at Lt1
        refine v_iinc3 C (pc' := 468) dL_law_465 (v := (a3t1 + (5 : Int32))) (by rw [show Int32.ofInt 5 = (5 : Int32) by decide]) (by decide) rfl rfl ?_
        refine v_goto C (pc' := 18) dL_law_468 (by decide) ?_
        cases Lt1
        refine V.widen (ce := 100 + 2 * (a3t1 + (5 : Int32)).toNatClampNeg) (sl := 3000 + 13 * (a3t1 + (5 : Int32)).toNatClampNeg) (by rw [i5 g3 hL]; omega) (by rw [i5 g3 hL]; omega) ?_
        exact kst1 _ rfl (by show (a3t1 + (5 : Int32)).toNatClampNeg ≤ 330; rw [i5 g3 hL]; omega)
      · rw [if_neg q15] at Lt1
        refine v_iconst C (pc' := 200) dL_law_199 (v := (0 : Int32)) (by decide) rfl ?_
        cases Lt1
        have z := kxt1 _ rfl
        rw [← z] at E
        simp only [Sum.elim_inl] at E
        exact absurd (Option.some.inj E) (by decide)
    rw [if_neg q4] at Lt1
    by_cases q16 : ((xs a3t1.toNatClampNeg) &&& (15 : Int32)) = (1 : Int32)
    · rw [if_pos q16] at Lt1
      refine v_tabIn C (pc' := 201) dL_law_32 (by rw [q16]; decide) (by rw [q16]; decide) (off := 169) (by rw [q16]; decide) (by decide) ?_
      refine v_aload_n C (pc' := 202) dL_law_201 rfl rfl rfl ?_
      obtain ⟨y17, hy17, Lt1⟩ := bind_some Lt1
      refine v_callV C (pc' := 205) (rest := []) (c_r_open l ht1 _ _ hy17) mv_L_20 rfl rfl lv0_0 dL_law_202 rfl rfl rfl ⟨Nat.le_of_ble_eq_true rfl, Nat.le_of_ble_eq_true rfl⟩ (Nat.le_of_ble_eq_true rfl) ⟨by simp only [room_1]; omega, by simp only [room_1]; omega⟩ ?_
      refine V.st (st' := [aI y17.1]) rfl ?_
      refine v_aload_n C (pc' := 206) dL_law_205 rfl rfl rfl ?_
      obtain ⟨y18, hy18, Lt1⟩ := bind_some Lt1
      refine v_callV C (pc' := 209) (rest := [aI y17.1]) (c_m_open l y17.2 _ _ hy18) mv_L_24 rfl rfl lv0_20 dL_law_206 rfl rfl rfl ⟨Nat.le_of_ble_eq_true rfl, Nat.le_of_ble_eq_true rfl⟩ (Nat.le_of_ble_eq_true rfl) ⟨by simp only [room_1]; omega, by simp only [room_1]; omega⟩ ?_
      refine V.st (st' := [aI y18.1, aI y17.1]) rfl ?_
      refine v_icmp_eq C (tg := 465) (pc' := 212) dL_law_209 (by decide) rfl (fun q19 => ?_) (fun q19 => ?_)
      · rw [if_pos q19] at Lt1
        refine v_iinc3 C (pc' := 468) dL_law_465 (v := (a3t1 + (5 : Int32))) (by rw [show Int32.ofInt 5 = (5 : Int32) by decide]) (by decide) rfl rfl ?_
        refine v_goto C (pc' := 18) dL_law_468 (by decide) ?_
        cases Lt1
        refine V.widen (ce := 100 + 2 * (a3t1 + (5 : Int32)).toNatClampNeg) (sl := 3000 + 13 * (a3t1 + (5 : Int32)).toNatClampNeg) (by rw [i5 g3 hL]; omega) (by rw [i5 g3 hL]; omega) ?_
        exact kst1 _ rfl (by show (a3t1 + (5 : Int32)).toNatClampNeg ≤ 330; rw [i5 g3 hL]; omega)
      · rw [if_neg q19] at Lt1
        refine v_iconst C (pc' := 213) dL_law_212 (v := (0 : Int32)) (by decide) rfl ?_
        cases Lt1
        have z := kxt1 _ rfl
        rw [← z] at E
        simp only [Sum.elim_inl] at E
        exact absurd (Option.some.inj E) (by decide)
    rw [if_neg q16] at Lt1
    by_cases q20 : ((xs a3t1.toNatClampNeg) &&& (15 : Int32)) = (2 : Int32)
    · rw [if_pos q20] at Lt1
      refine v_tabIn C (pc' := 214) dL_law_32 (by rw [q20]; decide) (by rw [q20]; decide) (off := 182) (by rw [q20]; decide) (by decide) ?_
      refine v_aload_n C (pc' := 215) dL_law_214 rfl rfl rfl ?_
      refine v_aload_n C (pc' := 216) dL_law_215 rfl rfl rfl ?_
      refine v_iload_n C (pc' := 217) dL_law_216 rfl rfl rfl ?_
      refine v_iconst C (pc' := 218) dL_law_217 (v := (1 : Int32)) (by decide) rfl ?_
      refine v_iadd C (pc' := 219) dL_law_218 rfl ?_
      obtain ⟨g21, Lt1⟩ := guardB_some Lt1
      refine v_xld C (pc' := 220) hX hbl hbA hb8 g21 dL_law_219 rfl ?_
      refine v_i2c C (pc' := 221) dL_law_220 rfl ?_
      obtain ⟨y22, hy22, Lt1⟩ := bind_some Lt1
      refine v_callV C (pc' := 224) (rest := []) (c_r_type l ((xs (a3t1 + (1 : Int32)).toNatClampNeg).toUInt32 % 65536).toInt32 ht1 _ _ hy22) mv_L_25 rfl rfl lv0_0 dL_law_221 rfl rfl rfl ⟨Nat.le_of_ble_eq_true rfl, Nat.le_of_ble_eq_true rfl⟩ (Nat.le_of_ble_eq_true rfl) ⟨by simp only [room_1]; omega, by simp only [room_1]; omega⟩ ?_
      refine V.st (st' := [aI y22.1]) rfl ?_
      refine v_aload_n C (pc' := 225) dL_law_224 rfl rfl rfl ?_
      refine v_aload_n C (pc' := 226) dL_law_225 rfl rfl rfl ?_
      refine v_iload_n C (pc' := 227) dL_law_226 rfl rfl rfl ?_
      refine v_iconst C (pc' := 228) dL_law_227 (v := (1 : Int32)) (by decide) rfl ?_
      refine v_iadd C (pc' := 229) dL_law_228 rfl ?_
      obtain ⟨g23, Lt1⟩ := guardB_some Lt1
      refine v_xld C (pc' := 230) hX hbl hbA hb8 g23 dL_law_229 rfl ?_
      refine v_i2c C (pc' := 231) dL_law_230 rfl ?_
      obtain ⟨y24, hy24, Lt1⟩ := bind_some Lt1
      refine v_callV C (pc' := 234) (rest := [aI y22.1]) (c_m_type l ((xs (a3t1 + (1 : Int32)).toNatClampNeg).toUInt32 % 65536).toInt32 y22.2 _ _ hy24) mv_L_29 rfl rfl lv0_20 dL_law_231 rfl rfl rfl ⟨Nat.le_of_ble_eq_true rfl, Nat.le_of_ble_eq_true rfl⟩ (Nat.le_of_ble_eq_true rfl) ⟨by simp only [room_1]; omega, by simp only [room_1]; omega⟩ ?_
      refine V.st (st' := [aI y24.1, aI y22.1]) rfl ?_
      refine v_icmp_eq C (tg := 465) (pc' := 237) dL_law_234 (by decide) rfl (fun q25 => ?_) (fun q25 => ?_)
      · rw [if_pos q25] at Lt1
        refine v_iinc3 C (pc' := 468) dL_law_465 (v := (a3t1 + (5 : Int32))) (by rw [show Int32.ofInt 5 = (5 : Int32) by decide]) (by decide) rfl rfl ?_
        refine v_goto C (pc' := 18) dL_law_468 (by decide) ?_
        cases Lt1
        refine V.widen (ce := 100 + 2 * (a3t1 + (5 : Int32)).toNatClampNeg) (sl := 3000 + 13 * (a3t1 + (5 : Int32)).toNatClampNeg) (by rw [i5 g3 hL]; omega) (by rw [i5 g3 hL]; omega) ?_
        exact kst1 _ rfl (by show (a3t1 + (5 : Int32)).toNatClampNeg ≤ 330; rw [i5 g3 hL]; omega)
      · rw [if_neg q25] at Lt1
        refine v_iconst C (pc' := 238) dL_law_237 (v := (0 : Int32)) (by decide) rfl ?_
        cases Lt1
        have z := kxt1 _ rfl
        rw [← z] at E
        simp only [Sum.elim_inl] at E
        exact absurd (Option.some.inj E) (by decide)
    rw [if_neg q20] at Lt1
    by_cases q26 : ((xs a3t1.toNatClampNeg) &&& (15 : Int32)) = (3 : Int32)
    · rw [if_pos q26] at Lt1
      refine v_tabIn C (pc' := 239) dL_law_32 (by rw [q26]; decide) (by rw [q26]; decide) (off := 207) (by rw [q26]; decide) (by decide) ?_
      refine v_aload_n C (pc' := 240) dL_law_239 rfl rfl rfl ?_
      refine v_aload_n C (pc' := 241) dL_law_240 rfl rfl rfl ?_
      refine v_iload_n C (pc' := 242) dL_law_241 rfl rfl rfl ?_
      refine v_iconst C (pc' := 243) dL_law_242 (v := (1 : Int32)) (by decide) rfl ?_
      refine v_iadd C (pc' := 244) dL_law_243 rfl ?_
      obtain ⟨g27, Lt1⟩ := guardB_some Lt1
      refine v_xld C (pc' := 245) hX hbl hbA hb8 g27 dL_law_244 rfl ?_
      refine v_i2l C (pc' := 246) dL_law_245 rfl ?_
      refine v_bipush C (pc' := 248) dL_law_246 (v := (32 : Int32)) (by decide) rfl ?_
      refine v_lshl C (pc' := 249) dL_law_248 rfl ?_
      refine v_aload_n C (pc' := 250) dL_law_249 rfl rfl rfl ?_
      refine v_iload_n C (pc' := 251) dL_law_250 rfl rfl rfl ?_
      refine v_iconst C (pc' := 252) dL_law_251 (v := (2 : Int32)) (by decide) rfl ?_
      refine v_iadd C (pc' := 253) dL_law_252 rfl ?_
      obtain ⟨g28, Lt1⟩ := guardB_some Lt1
      refine v_xld C (pc' := 254) hX hbl hbA hb8 g28 dL_law_253 rfl ?_
      refine v_i2l C (pc' := 255) dL_law_254 rfl ?_
      refine v_ldc2 C (pc' := 258) dL_law_255 (v := (4294967295 : Int64)) (TT_of (i := 1228) (by decide +kernel) (by decide +kernel)) rfl ?_
      refine v_land C (pc' := 259) dL_law_258 rfl ?_
      refine v_lor C (pc' := 260) dL_law_259 rfl ?_
      obtain ⟨y29, hy29, Lt1⟩ := bind_some Lt1
      refine v_callV C (pc' := 263) (rest := []) (c_r_word l (((xs (a3t1 + (1 : Int32)).toNatClampNeg).toInt64 <<< ((32 : Int32).toInt64 &&& 63)) ||| ((xs (a3t1 + (2 : Int32)).toNatClampNeg).toInt64 &&& (4294967295 : Int64))) ht1 _ _ hy29) mv_L_30 rfl rfl lv0_0 dL_law_260 rfl rfl rfl ⟨Nat.le_of_ble_eq_true rfl, Nat.le_of_ble_eq_true rfl⟩ (Nat.le_of_ble_eq_true rfl) ⟨by simp only [room_1]; omega, by simp only [room_1]; omega⟩ ?_
      refine V.st (st' := [aI y29.1]) rfl ?_
      refine v_aload_n C (pc' := 264) dL_law_263 rfl rfl rfl ?_
      refine v_aload_n C (pc' := 265) dL_law_264 rfl rfl rfl ?_
      refine v_iload_n C (pc' := 266) dL_law_265 rfl rfl rfl ?_
      refine v_iconst C (pc' := 267) dL_law_266 (v := (1 : Int32)) (by decide) rfl ?_
      refine v_iadd C (pc' := 268) dL_law_267 rfl ?_
      obtain ⟨g30, Lt1⟩ := guardB_some Lt1
      refine v_xld C (pc' := 269) hX hbl hbA hb8 g30 dL_law_268 rfl ?_
      refine v_i2l C (pc' := 270) dL_law_269 rfl ?_
      refine v_bipush C (pc' := 272) dL_law_270 (v := (32 : Int32)) (by decide) rfl ?_
      refine v_lshl C (pc' := 273) dL_law_272 rfl ?_
      refine v_aload_n C (pc' := 274) dL_law_273 rfl rfl rfl ?_
      refine v_iload_n C (pc' := 275) dL_law_274 rfl rfl rfl ?_
      refine v_iconst C (pc' := 276) dL_law_275 (v := (2 : Int32)) (by decide) rfl ?_
      refine v_iadd C (pc' := 277) dL_law_276 rfl ?_
      obtain ⟨g31, Lt1⟩ := guardB_some Lt1
      refine v_xld C (pc' := 278) hX hbl hbA hb8 g31 dL_law_277 rfl ?_
      refine v_i2l C (pc' := 279) dL_law_278 rfl ?_
      refine v_ldc2 C (pc' := 282) dL_law_279 (v := (4294967295 : Int64)) (TT_of (i := 1228) (by decide +kernel) (by decide +kernel)) rfl ?_
      refine v_land C (pc' := 283) dL_law_282 rfl ?_
      refine v_lor C (pc' := 284) dL_law_283 rfl ?_
      obtain ⟨y32, hy32, Lt1⟩ := bind_some Lt1
      refine v_callV C (pc' := 287) (rest := [aI y29.1]) (c_m_word l (((xs (a3t1 + (1 : Int32)).toNatClampNeg).toInt64 <<< ((32 : Int32).toInt64 &&& 63)) ||| ((xs (a3t1 + (2 : Int32)).toNatClampNeg).toInt64 &&& (4294967295 : Int64))) y29.2 _ _ hy32) mv_L_34 rfl rfl lv0_20 dL_law_284 rfl rfl rfl ⟨Nat.le_of_ble_eq_true rfl, Nat.le_of_ble_eq_true rfl⟩ (Nat.le_of_ble_eq_true rfl) ⟨by simp only [room_1]; omega, by simp only [room_1]; omega⟩ ?_
      refine V.st (st' := [aI y32.1, aI y29.1]) rfl ?_
      refine v_icmp_eq C (tg := 465) (pc' := 290) dL_law_287 (by decide) rfl (fun q33 => ?_) (fun q33 => ?_)
      · rw [if_pos q33] at Lt1
        refine v_iinc3 C (pc' := 468) dL_law_465 (v := (a3t1 + (5 : Int32))) (by rw [show Int32.ofInt 5 = (5 : Int32) by decide]) (by decide) rfl rfl ?_
        refine v_goto C (pc' := 18) dL_law_468 (by decide) ?_
        cases Lt1
        refine V.widen (ce := 100 + 2 * (a3t1 + (5 : Int32)).toNatClampNeg) (sl := 3000 + 13 * (a3t1 + (5 : Int32)).toNatClampNeg) (by rw [i5 g3 hL]; omega) (by rw [i5 g3 hL]; omega) ?_
        exact kst1 _ rfl (by show (a3t1 + (5 : Int32)).toNatClampNeg ≤ 330; rw [i5 g3 hL]; omega)
      · rw [if_neg q33] at Lt1
        refine v_iconst C (pc' := 291) dL_law_290 (v := (0 : Int32)) (by decide) rfl ?_
        cases Lt1
        have z := kxt1 _ rfl
        rw [← z] at E
        simp only [Sum.elim_inl] at E
        exact absurd (Option.some.inj E) (by decide)
    rw [if_neg q26] at Lt1
    by_cases q34 : ((xs a3t1.toNatClampNeg) &&& (15 : Int32)) = (4 : Int32)
    · rw [if_pos q34] at Lt1
      refine v_tabIn C (pc' := 292) dL_law_32 (by rw [q34]; decide) (by rw [q34]; decide) (off := 260) (by rw [q34]; decide) (by decide) ?_
      refine v_aload_n C (pc' := 293) dL_law_292 rfl rfl rfl ?_
      obtain ⟨y35, hy35, Lt1⟩ := bind_some Lt1
      refine v_callV C (pc' := 296) (rest := []) (c_r_enter l ht1 _ _ hy35) mv_L_35 rfl rfl lv0_0 dL_law_293 rfl rfl rfl ⟨Nat.le_of_ble_eq_true rfl, Nat.le_of_ble_eq_true rfl⟩ (Nat.le_of_ble_eq_true rfl) ⟨by simp only [room_1]; omega, by simp only [room_1]; omega⟩ ?_
      refine V.st (st' := [aI y35.1]) rfl ?_
      refine v_aload_n C (pc' := 297) dL_law_296 rfl rfl rfl ?_
      obtain ⟨y36, hy36, Lt1⟩ := bind_some Lt1
      refine v_callV C (pc' := 300) (rest := [aI y35.1]) (c_m_enter l y35.2 _ _ hy36) mv_L_39 rfl rfl lv0_20 dL_law_297 rfl rfl rfl ⟨Nat.le_of_ble_eq_true rfl, Nat.le_of_ble_eq_true rfl⟩ (Nat.le_of_ble_eq_true rfl) ⟨by simp only [room_1]; omega, by simp only [room_1]; omega⟩ ?_
      refine V.st (st' := [aI y36.1, aI y35.1]) rfl ?_
      refine v_icmp_eq C (tg := 465) (pc' := 303) dL_law_300 (by decide) rfl (fun q37 => ?_) (fun q37 => ?_)
      · rw [if_pos q37] at Lt1
        refine v_iinc3 C (pc' := 468) dL_law_465 (v := (a3t1 + (5 : Int32))) (by rw [show Int32.ofInt 5 = (5 : Int32) by decide]) (by decide) rfl rfl ?_
        refine v_goto C (pc' := 18) dL_law_468 (by decide) ?_
        cases Lt1
        refine V.widen (ce := 100 + 2 * (a3t1 + (5 : Int32)).toNatClampNeg) (sl := 3000 + 13 * (a3t1 + (5 : Int32)).toNatClampNeg) (by rw [i5 g3 hL]; omega) (by rw [i5 g3 hL]; omega) ?_
        exact kst1 _ rfl (by show (a3t1 + (5 : Int32)).toNatClampNeg ≤ 330; rw [i5 g3 hL]; omega)
      · rw [if_neg q37] at Lt1
        refine v_iconst C (pc' := 304) dL_law_303 (v := (0 : Int32)) (by decide) rfl ?_
        cases Lt1
        have z := kxt1 _ rfl
        rw [← z] at E
        simp only [Sum.elim_inl] at E
        exact absurd (Option.some.inj E) (by decide)
    rw [if_neg q34] at Lt1
    by_cases q38 : ((xs a3t1.toNatClampNeg) &&& (15 : Int32)) = (5 : Int32)
    · rw [if_pos q38] at Lt1
      refine v_tabIn C (pc' := 305) dL_law_32 (by rw [q38]; decide) (by rw [q38]; decide) (off := 273) (by rw [q38]; decide) (by decide) ?_
      refine v_aload_n C (pc' := 306) dL_law_305 rfl rfl rfl ?_
      obtain ⟨y39, hy39, Lt1⟩ := bind_some Lt1
      refine v_callV C (pc' := 309) (rest := []) (c_r_reply l ht1 _ hy39) mv_L_40 rfl rfl lv0_0 dL_law_306 rfl rfl rfl ⟨Nat.le_of_ble_eq_true rfl, Nat.le_of_ble_eq_true rfl⟩ (Nat.le_of_ble_eq_true rfl) ⟨by simp only [room_1]; omega, by simp only [room_1]; omega⟩ ?_
      refine V.st (st' := [aI y39]) rfl ?_
      refine v_aload_n C (pc' := 310) dL_law_309 rfl rfl rfl ?_
      obtain ⟨y40, hy40, Lt1⟩ := bind_some Lt1
      refine v_callV C (pc' := 313) (rest := [aI y39]) (c_m_reply l ht1 _ hy40) mv_L_43 rfl rfl lv0_20 dL_law_310 rfl rfl rfl ⟨Nat.le_of_ble_eq_true rfl, Nat.le_of_ble_eq_true rfl⟩ (Nat.le_of_ble_eq_true rfl) ⟨by simp only [room_1]; omega, by simp only [room_1]; omega⟩ ?_
      refine V.st (st' := [aI y40, aI y39]) rfl ?_
      refine v_icmp_eq C (tg := 465) (pc' := 316) dL_law_313 (by decide) rfl (fun q41 => ?_) (fun q41 => ?_)
      · rw [if_pos q41] at Lt1
        refine v_iinc3 C (pc' := 468) dL_law_465 (v := (a3t1 + (5 : Int32))) (by rw [show Int32.ofInt 5 = (5 : Int32) by decide]) (by decide) rfl rfl ?_
        refine v_goto C (pc' := 18) dL_law_468 (by decide) ?_
        cases Lt1
        refine V.widen (ce := 100 + 2 * (a3t1 + (5 : Int32)).toNatClampNeg) (sl := 3000 + 13 * (a3t1 + (5 : Int32)).toNatClampNeg) (by rw [i5 g3 hL]; omega) (by rw [i5 g3 hL]; omega) ?_
        exact kst1 _ rfl (by show (a3t1 + (5 : Int32)).toNatClampNeg ≤ 330; rw [i5 g3 hL]; omega)
      · rw [if_neg q41] at Lt1
        refine v_iconst C (pc' := 317) dL_law_316 (v := (0 : Int32)) (by decide) rfl ?_
        cases Lt1
        have z := kxt1 _ rfl
        rw [← z] at E
        simp only [Sum.elim_inl] at E
        exact absurd (Option.some.inj E) (by decide)
    rw [if_neg q38] at Lt1
    by_cases q42 : ((xs a3t1.toNatClampNeg) &&& (15 : Int32)) = (6 : Int32)
    · rw [if_pos q42] at Lt1
      refine v_tabIn C (pc' := 318) dL_law_32 (by rw [q42]; decide) (by rw [q42]; decide) (off := 286) (by rw [q42]; decide) (by decide) ?_
      refine v_aload_n C (pc' := 319) dL_law_318 rfl rfl rfl ?_
      refine v_aload_n C (pc' := 320) dL_law_319 rfl rfl rfl ?_
      refine v_iload_n C (pc' := 321) dL_law_320 rfl rfl rfl ?_
      refine v_iconst C (pc' := 322) dL_law_321 (v := (1 : Int32)) (by decide) rfl ?_
      refine v_iadd C (pc' := 323) dL_law_322 rfl ?_
      obtain ⟨g43, Lt1⟩ := guardB_some Lt1
      refine v_xld C (pc' := 324) hX hbl hbA hb8 g43 dL_law_323 rfl ?_
      obtain ⟨y44, hy44, Lt1⟩ := bind_some Lt1
      refine v_callV C (pc' := 327) (rest := []) (c_r_text l (xs (a3t1 + (1 : Int32)).toNatClampNeg) ht1 _ hy44) mv_L_44 rfl rfl lv0_0 dL_law_324 rfl rfl rfl ⟨Nat.le_of_ble_eq_true rfl, Nat.le_of_ble_eq_true rfl⟩ (Nat.le_of_ble_eq_true rfl) ⟨by simp only [room_1]; omega, by simp only [room_1]; omega⟩ ?_
      refine V.st (st' := [aI y44]) rfl ?_
      refine v_aload_n C (pc' := 328) dL_law_327 rfl rfl rfl ?_
      refine v_aload_n C (pc' := 329) dL_law_328 rfl rfl rfl ?_
      refine v_iload_n C (pc' := 330) dL_law_329 rfl rfl rfl ?_
      refine v_iconst C (pc' := 331) dL_law_330 (v := (1 : Int32)) (by decide) rfl ?_
      refine v_iadd C (pc' := 332) dL_law_331 rfl ?_
      obtain ⟨g45, Lt1⟩ := guardB_some Lt1
      refine v_xld C (pc' := 333) hX hbl hbA hb8 g45 dL_law_332 rfl ?_
      obtain ⟨y46, hy46, Lt1⟩ := bind_some Lt1
      refine v_callV C (pc' := 336) (rest := [aI y44]) (c_m_text l (xs (a3t1 + (1 : Int32)).toNatClampNeg) ht1 _ hy46) mv_L_48 rfl rfl lv0_20 dL_law_333 rfl rfl rfl ⟨Nat.le_of_ble_eq_true rfl, Nat.le_of_ble_eq_true rfl⟩ (Nat.le_of_ble_eq_true rfl) ⟨by simp only [room_1]; omega, by simp only [room_1]; omega⟩ ?_
      refine V.st (st' := [aI y46, aI y44]) rfl ?_
      refine v_icmp_eq C (tg := 465) (pc' := 339) dL_law_336 (by decide) rfl (fun q47 => ?_) (fun q47 => ?_)
      · rw [if_pos q47] at Lt1
        refine v_iinc3 C (pc' := 468) dL_law_465 (v := (a3t1 + (5 : Int32))) (by rw [show Int32.ofInt 5 = (5 : Int32) by decide]) (by decide) rfl rfl ?_
        refine v_goto C (pc' := 18) dL_law_468 (by decide) ?_
        cases Lt1
        refine V.widen (ce := 100 + 2 * (a3t1 + (5 : Int32)).toNatClampNeg) (sl := 3000 + 13 * (a3t1 + (5 : Int32)).toNatClampNeg) (by rw [i5 g3 hL]; omega) (by rw [i5 g3 hL]; omega) ?_
        exact kst1 _ rfl (by show (a3t1 + (5 : Int32)).toNatClampNeg ≤ 330; rw [i5 g3 hL]; omega)
      · rw [if_neg q47] at Lt1
        refine v_iconst C (pc' := 340) dL_law_339 (v := (0 : Int32)) (by decide) rfl ?_
        cases Lt1
        have z := kxt1 _ rfl
        rw [← z] at E
        simp only [Sum.elim_inl] at E
        exact absurd (Option.some.inj E) (by decide)
    rw [if_neg q42] at Lt1
    by_cases q48 : ((xs a3t1.toNatClampNeg) &&& (15 : Int32)) = (7 : Int32)
    · rw [if_pos q48] at Lt1
      refine v_tabIn C (pc' := 341) dL_law_32 (by rw [q48]; decide) (by rw [q48]; decide) (off := 309) (by rw [q48]; decide) (by decide) ?_
      refine v_aload_n C (pc' := 342) dL_law_341 rfl rfl rfl ?_
      obtain ⟨y49, hy49, Lt1⟩ := bind_some Lt1
      refine v_callV C (pc' := 345) (rest := []) (c_r_join l ht1 _ _ hy49) mv_L_49 rfl rfl lv0_0 dL_law_342 rfl rfl rfl ⟨Nat.le_of_ble_eq_true rfl, Nat.le_of_ble_eq_true rfl⟩ (Nat.le_of_ble_eq_true rfl) ⟨by simp only [room_1]; omega, by simp only [room_1]; omega⟩ ?_
      refine V.st (st' := [aI y49.1]) rfl ?_
      refine v_aload_n C (pc' := 346) dL_law_345 rfl rfl rfl ?_
      obtain ⟨y50, hy50, Lt1⟩ := bind_some Lt1
      refine v_callV C (pc' := 349) (rest := [aI y49.1]) (c_m_join l y49.2 _ _ hy50) mv_L_52 rfl rfl lv0_20 dL_law_346 rfl rfl rfl ⟨Nat.le_of_ble_eq_true rfl, Nat.le_of_ble_eq_true rfl⟩ (Nat.le_of_ble_eq_true rfl) ⟨by simp only [room_1]; omega, by simp only [room_1]; omega⟩ ?_
      refine V.st (st' := [aI y50.1, aI y49.1]) rfl ?_
      refine v_icmp_eq C (tg := 465) (pc' := 352) dL_law_349 (by decide) rfl (fun q51 => ?_) (fun q51 => ?_)
      · rw [if_pos q51] at Lt1
        refine v_iinc3 C (pc' := 468) dL_law_465 (v := (a3t1 + (5 : Int32))) (by rw [show Int32.ofInt 5 = (5 : Int32) by decide]) (by decide) rfl rfl ?_
        refine v_goto C (pc' := 18) dL_law_468 (by decide) ?_
        cases Lt1
        refine V.widen (ce := 100 + 2 * (a3t1 + (5 : Int32)).toNatClampNeg) (sl := 3000 + 13 * (a3t1 + (5 : Int32)).toNatClampNeg) (by rw [i5 g3 hL]; omega) (by rw [i5 g3 hL]; omega) ?_
        exact kst1 _ rfl (by show (a3t1 + (5 : Int32)).toNatClampNeg ≤ 330; rw [i5 g3 hL]; omega)
      · rw [if_neg q51] at Lt1
        refine v_iconst C (pc' := 353) dL_law_352 (v := (0 : Int32)) (by decide) rfl ?_
        cases Lt1
        have z := kxt1 _ rfl
        rw [← z] at E
        simp only [Sum.elim_inl] at E
        exact absurd (Option.some.inj E) (by decide)
    rw [if_neg q48] at Lt1
    by_cases q52 : ((xs a3t1.toNatClampNeg) &&& (15 : Int32)) = (8 : Int32)
    · rw [if_pos q52] at Lt1
      refine v_tabIn C (pc' := 354) dL_law_32 (by rw [q52]; decide) (by rw [q52]; decide) (off := 322) (by rw [q52]; decide) (by decide) ?_
      refine v_aload_n C (pc' := 355) dL_law_354 rfl rfl rfl ?_
      refine v_aload_n C (pc' := 356) dL_law_355 rfl rfl rfl ?_
      refine v_iload_n C (pc' := 357) dL_law_356 rfl rfl rfl ?_
      refine v_iconst C (pc' := 358) dL_law_357 (v := (1 : Int32)) (by decide) rfl ?_
      refine v_iadd C (pc' := 359) dL_law_358 rfl ?_
      obtain ⟨g53, Lt1⟩ := guardB_some Lt1
      refine v_xld C (pc' := 360) hX hbl hbA hb8 g53 dL_law_359 rfl ?_
      obtain ⟨y54, hy54, Lt1⟩ := bind_some Lt1
      refine v_callV C (pc' := 363) (rest := []) (c_r_listen l (xs (a3t1 + (1 : Int32)).toNatClampNeg) ht1 _ _ hy54) mv_L_53 rfl rfl lv0_0 dL_law_360 rfl rfl rfl ⟨Nat.le_of_ble_eq_true rfl, Nat.le_of_ble_eq_true rfl⟩ (Nat.le_of_ble_eq_true rfl) ⟨by simp only [room_1]; omega, by simp only [room_1]; omega⟩ ?_
      refine V.st (st' := [aI y54.1]) rfl ?_
      refine v_aload_n C (pc' := 364) dL_law_363 rfl rfl rfl ?_
      refine v_aload_n C (pc' := 365) dL_law_364 rfl rfl rfl ?_
      refine v_iload_n C (pc' := 366) dL_law_365 rfl rfl rfl ?_
      refine v_iconst C (pc' := 367) dL_law_366 (v := (1 : Int32)) (by decide) rfl ?_
      refine v_iadd C (pc' := 368) dL_law_367 rfl ?_
      obtain ⟨g55, Lt1⟩ := guardB_some Lt1
      refine v_xld C (pc' := 369) hX hbl hbA hb8 g55 dL_law_368 rfl ?_
      obtain ⟨y56, hy56, Lt1⟩ := bind_some Lt1
      refine v_callV C (pc' := 372) (rest := [aI y54.1]) (c_m_listen l (xs (a3t1 + (1 : Int32)).toNatClampNeg) y54.2 _ _ hy56) mv_L_57 rfl rfl lv0_20 dL_law_369 rfl rfl rfl ⟨Nat.le_of_ble_eq_true rfl, Nat.le_of_ble_eq_true rfl⟩ (Nat.le_of_ble_eq_true rfl) ⟨by simp only [room_1]; omega, by simp only [room_1]; omega⟩ ?_
      refine V.st (st' := [aI y56.1, aI y54.1]) rfl ?_
      refine v_icmp_eq C (tg := 465) (pc' := 375) dL_law_372 (by decide) rfl (fun q57 => ?_) (fun q57 => ?_)
      · rw [if_pos q57] at Lt1
        refine v_iinc3 C (pc' := 468) dL_law_465 (v := (a3t1 + (5 : Int32))) (by rw [show Int32.ofInt 5 = (5 : Int32) by decide]) (by decide) rfl rfl ?_
        refine v_goto C (pc' := 18) dL_law_468 (by decide) ?_
        cases Lt1
        refine V.widen (ce := 100 + 2 * (a3t1 + (5 : Int32)).toNatClampNeg) (sl := 3000 + 13 * (a3t1 + (5 : Int32)).toNatClampNeg) (by rw [i5 g3 hL]; omega) (by rw [i5 g3 hL]; omega) ?_
        exact kst1 _ rfl (by show (a3t1 + (5 : Int32)).toNatClampNeg ≤ 330; rw [i5 g3 hL]; omega)
      · rw [if_neg q57] at Lt1
        refine v_iconst C (pc' := 376) dL_law_375 (v := (0 : Int32)) (by decide) rfl ?_
        cases Lt1
        have z := kxt1 _ rfl
        rw [← z] at E
        simp only [Sum.elim_inl] at E
        exact absurd (Option.some.inj E) (by decide)
    rw [if_neg q52] at Lt1
    by_cases q58 : ((xs a3t1.toNatClampNeg) &&& (15 : Int32)) = (9 : Int32)
    · rw [if_pos q58] at Lt1
      refine v_tabIn C (pc' := 377) dL_law_32 (by rw [q58]; decide) (by rw [q58]; decide) (off := 345) (by rw [q58]; decide) (by decide) ?_
      refine v_aload_n C (pc' := 378) dL_law_377 rfl rfl rfl ?_
      obtain ⟨y59, hy59, Lt1⟩ := bind_some Lt1
      refine v_callV C (pc' := 381) (rest := []) (c_r_take l ht1 _ _ hy59) mv_L_58 rfl rfl lv0_0 dL_law_378 rfl rfl rfl ⟨Nat.le_of_ble_eq_true rfl, Nat.le_of_ble_eq_true rfl⟩ (Nat.le_of_ble_eq_true rfl) ⟨by simp only [room_1]; omega, by simp only [room_1]; omega⟩ ?_
      refine V.st (st' := [aI y59.1]) rfl ?_
      refine v_aload_n C (pc' := 382) dL_law_381 rfl rfl rfl ?_
      obtain ⟨y60, hy60, Lt1⟩ := bind_some Lt1
      refine v_callV C (pc' := 385) (rest := [aI y59.1]) (c_m_take l y59.2 _ _ hy60) mv_L_61 rfl rfl lv0_20 dL_law_382 rfl rfl rfl ⟨Nat.le_of_ble_eq_true rfl, Nat.le_of_ble_eq_true rfl⟩ (Nat.le_of_ble_eq_true rfl) ⟨by simp only [room_1]; omega, by simp only [room_1]; omega⟩ ?_
      refine V.st (st' := [aI y60.1, aI y59.1]) rfl ?_
      refine v_icmp_eq C (tg := 465) (pc' := 388) dL_law_385 (by decide) rfl (fun q61 => ?_) (fun q61 => ?_)
      · rw [if_pos q61] at Lt1
        refine v_iinc3 C (pc' := 468) dL_law_465 (v := (a3t1 + (5 : Int32))) (by rw [show Int32.ofInt 5 = (5 : Int32) by decide]) (by decide) rfl rfl ?_
        refine v_goto C (pc' := 18) dL_law_468 (by decide) ?_
        cases Lt1
        refine V.widen (ce := 100 + 2 * (a3t1 + (5 : Int32)).toNatClampNeg) (sl := 3000 + 13 * (a3t1 + (5 : Int32)).toNatClampNeg) (by rw [i5 g3 hL]; omega) (by rw [i5 g3 hL]; omega) ?_
        exact kst1 _ rfl (by show (a3t1 + (5 : Int32)).toNatClampNeg ≤ 330; rw [i5 g3 hL]; omega)
      · rw [if_neg q61] at Lt1
        refine v_iconst C (pc' := 389) dL_law_388 (v := (0 : Int32)) (by decide) rfl ?_
        cases Lt1
        have z := kxt1 _ rfl
        rw [← z] at E
        simp only [Sum.elim_inl] at E
        exact absurd (Option.some.inj E) (by decide)
    rw [if_neg q58] at Lt1
    by_cases q62 : ((xs a3t1.toNatClampNeg) &&& (15 : Int32)) = (10 : Int32)
    · rw [if_pos q62] at Lt1
      refine v_tabIn C (pc' := 390) dL_law_32 (by rw [q62]; decide) (by rw [q62]; decide) (off := 358) (by rw [q62]; decide) (by decide) ?_
      refine v_aload_n C (pc' := 391) dL_law_390 rfl rfl rfl ?_
      refine v_aload_n C (pc' := 392) dL_law_391 rfl rfl rfl ?_
      refine v_iload_n C (pc' := 393) dL_law_392 rfl rfl rfl ?_
      refine v_iconst C (pc' := 394) dL_law_393 (v := (1 : Int32)) (by decide) rfl ?_
      refine v_iadd C (pc' := 395) dL_law_394 rfl ?_
      obtain ⟨g63, Lt1⟩ := guardB_some Lt1
      refine v_xld C (pc' := 396) hX hbl hbA hb8 g63 dL_law_395 rfl ?_
      obtain ⟨y64, hy64, Lt1⟩ := bind_some Lt1
      refine v_callV C (pc' := 399) (rest := []) (c_r_give l (xs (a3t1 + (1 : Int32)).toNatClampNeg) ht1 _ _ hy64) mv_L_62 rfl rfl lv0_0 dL_law_396 rfl rfl rfl ⟨Nat.le_of_ble_eq_true rfl, Nat.le_of_ble_eq_true rfl⟩ (Nat.le_of_ble_eq_true rfl) ⟨by simp only [room_1]; omega, by simp only [room_1]; omega⟩ ?_
      refine V.st (st' := [aI y64.1]) rfl ?_
      refine v_aload_n C (pc' := 400) dL_law_399 rfl rfl rfl ?_
      refine v_aload_n C (pc' := 401) dL_law_400 rfl rfl rfl ?_
      refine v_iload_n C (pc' := 402) dL_law_401 rfl rfl rfl ?_
      refine v_iconst C (pc' := 403) dL_law_402 (v := (1 : Int32)) (by decide) rfl ?_
      refine v_iadd C (pc' := 404) dL_law_403 rfl ?_
      obtain ⟨g65, Lt1⟩ := guardB_some Lt1
      refine v_xld C (pc' := 405) hX hbl hbA hb8 g65 dL_law_404 rfl ?_
      obtain ⟨y66, hy66, Lt1⟩ := bind_some Lt1
      refine v_callV C (pc' := 408) (rest := [aI y64.1]) (c_m_give l (xs (a3t1 + (1 : Int32)).toNatClampNeg) y64.2 _ _ hy66) mv_L_65 rfl rfl lv0_20 dL_law_405 rfl rfl rfl ⟨Nat.le_of_ble_eq_true rfl, Nat.le_of_ble_eq_true rfl⟩ (Nat.le_of_ble_eq_true rfl) ⟨by simp only [room_1]; omega, by simp only [room_1]; omega⟩ ?_
      refine V.st (st' := [aI y66.1, aI y64.1]) rfl ?_
      refine v_icmp_eq C (tg := 465) (pc' := 411) dL_law_408 (by decide) rfl (fun q67 => ?_) (fun q67 => ?_)
      · rw [if_pos q67] at Lt1
        refine v_iinc3 C (pc' := 468) dL_law_465 (v := (a3t1 + (5 : Int32))) (by rw [show Int32.ofInt 5 = (5 : Int32) by decide]) (by decide) rfl rfl ?_
        refine v_goto C (pc' := 18) dL_law_468 (by decide) ?_
        cases Lt1
        refine V.widen (ce := 100 + 2 * (a3t1 + (5 : Int32)).toNatClampNeg) (sl := 3000 + 13 * (a3t1 + (5 : Int32)).toNatClampNeg) (by rw [i5 g3 hL]; omega) (by rw [i5 g3 hL]; omega) ?_
        exact kst1 _ rfl (by show (a3t1 + (5 : Int32)).toNatClampNeg ≤ 330; rw [i5 g3 hL]; omega)
      · rw [if_neg q67] at Lt1
        refine v_iconst C (pc' := 412) dL_law_411 (v := (0 : Int32)) (by decide) rfl ?_
        cases Lt1
        have z := kxt1 _ rfl
        rw [← z] at E
        simp only [Sum.elim_inl] at E
        exact absurd (Option.some.inj E) (by decide)
    rw [if_neg q62] at Lt1
    by_cases q68 : ((xs a3t1.toNatClampNeg) &&& (15 : Int32)) = (11 : Int32)
    · rw [if_pos q68] at Lt1
      refine v_tabIn C (pc' := 413) dL_law_32 (by rw [q68]; decide) (by rw [q68]; decide) (off := 381) (by rw [q68]; decide) (by decide) ?_
      refine v_aload_n C (pc' := 414) dL_law_413 rfl rfl rfl ?_
      obtain ⟨y69, hy69, Lt1⟩ := bind_some Lt1
      refine v_callV C (pc' := 417) (rest := []) (c_r_end l ht1 _ _ hy69) mv_L_66 rfl rfl lv0_0 dL_law_414 rfl rfl rfl ⟨Nat.le_of_ble_eq_true rfl, Nat.le_of_ble_eq_true rfl⟩ (Nat.le_of_ble_eq_true rfl) ⟨by simp only [room_1]; omega, by simp only [room_1]; omega⟩ ?_
      refine V.st (st' := [aI y69.1]) rfl ?_
      refine v_aload_n C (pc' := 418) dL_law_417 rfl rfl rfl ?_
      obtain ⟨y70, hy70, Lt1⟩ := bind_some Lt1
      refine v_callV C (pc' := 421) (rest := [aI y69.1]) (c_m_end l y69.2 _ _ hy70) mv_L_69 rfl rfl lv0_20 dL_law_418 rfl rfl rfl ⟨Nat.le_of_ble_eq_true rfl, Nat.le_of_ble_eq_true rfl⟩ (Nat.le_of_ble_eq_true rfl) ⟨by simp only [room_1]; omega, by simp only [room_1]; omega⟩ ?_
      refine V.st (st' := [aI y70.1, aI y69.1]) rfl ?_
      refine v_icmp_eq C (tg := 465) (pc' := 424) dL_law_421 (by decide) rfl (fun q71 => ?_) (fun q71 => ?_)
      · rw [if_pos q71] at Lt1
        refine v_iinc3 C (pc' := 468) dL_law_465 (v := (a3t1 + (5 : Int32))) (by rw [show Int32.ofInt 5 = (5 : Int32) by decide]) (by decide) rfl rfl ?_
        refine v_goto C (pc' := 18) dL_law_468 (by decide) ?_
        cases Lt1
        refine V.widen (ce := 100 + 2 * (a3t1 + (5 : Int32)).toNatClampNeg) (sl := 3000 + 13 * (a3t1 + (5 : Int32)).toNatClampNeg) (by rw [i5 g3 hL]; omega) (by rw [i5 g3 hL]; omega) ?_
        exact kst1 _ rfl (by show (a3t1 + (5 : Int32)).toNatClampNeg ≤ 330; rw [i5 g3 hL]; omega)
      · rw [if_neg q71] at Lt1
        refine v_iconst C (pc' := 425) dL_law_424 (v := (0 : Int32)) (by decide) rfl ?_
        cases Lt1
        have z := kxt1 _ rfl
        rw [← z] at E
        simp only [Sum.elim_inl] at E
        exact absurd (Option.some.inj E) (by decide)
    rw [if_neg q68] at Lt1
    by_cases q72 : ((xs a3t1.toNatClampNeg) &&& (15 : Int32)) = (12 : Int32)
    · rw [if_pos q72] at Lt1
      refine v_tabIn C (pc' := 426) dL_law_32 (by rw [q72]; decide) (by rw [q72]; decide) (off := 394) (by rw [q72]; decide) (by decide) ?_
      refine v_aload_n C (pc' := 427) dL_law_426 rfl rfl rfl ?_
      obtain ⟨y73, hy73, Lt1⟩ := bind_some Lt1
      refine v_callV C (pc' := 430) (rest := []) (c_r_transfer l ht1 _ hy73) mv_L_70 rfl rfl lv0_0 dL_law_427 rfl rfl rfl ⟨Nat.le_of_ble_eq_true rfl, Nat.le_of_ble_eq_true rfl⟩ (Nat.le_of_ble_eq_true rfl) ⟨by simp only [room_1]; omega, by simp only [room_1]; omega⟩ ?_
      refine V.st (st' := [aI y73]) rfl ?_
      refine v_aload_n C (pc' := 431) dL_law_430 rfl rfl rfl ?_
      obtain ⟨y74, hy74, Lt1⟩ := bind_some Lt1
      refine v_callV C (pc' := 434) (rest := [aI y73]) (c_m_transfer l ht1 _ hy74) mv_L_73 rfl rfl lv0_20 dL_law_431 rfl rfl rfl ⟨Nat.le_of_ble_eq_true rfl, Nat.le_of_ble_eq_true rfl⟩ (Nat.le_of_ble_eq_true rfl) ⟨by simp only [room_1]; omega, by simp only [room_1]; omega⟩ ?_
      refine V.st (st' := [aI y74, aI y73]) rfl ?_
      refine v_icmp_eq C (tg := 465) (pc' := 437) dL_law_434 (by decide) rfl (fun q75 => ?_) (fun q75 => ?_)
      · rw [if_pos q75] at Lt1
        refine v_iinc3 C (pc' := 468) dL_law_465 (v := (a3t1 + (5 : Int32))) (by rw [show Int32.ofInt 5 = (5 : Int32) by decide]) (by decide) rfl rfl ?_
        refine v_goto C (pc' := 18) dL_law_468 (by decide) ?_
        cases Lt1
        refine V.widen (ce := 100 + 2 * (a3t1 + (5 : Int32)).toNatClampNeg) (sl := 3000 + 13 * (a3t1 + (5 : Int32)).toNatClampNeg) (by rw [i5 g3 hL]; omega) (by rw [i5 g3 hL]; omega) ?_
        exact kst1 _ rfl (by show (a3t1 + (5 : Int32)).toNatClampNeg ≤ 330; rw [i5 g3 hL]; omega)
      · rw [if_neg q75] at Lt1
        refine v_iconst C (pc' := 438) dL_law_437 (v := (0 : Int32)) (by decide) rfl ?_
        cases Lt1
        have z := kxt1 _ rfl
        rw [← z] at E
        simp only [Sum.elim_inl] at E
        exact absurd (Option.some.inj E) (by decide)
    rw [if_neg q72] at Lt1
    by_cases q76 : ((xs a3t1.toNatClampNeg) &&& (15 : Int32)) = (13 : Int32)
    · rw [if_pos q76] at Lt1
      refine v_tabIn C (pc' := 439) dL_law_32 (by rw [q76]; decide) (by rw [q76]; decide) (off := 407) (by rw [q76]; decide) (by decide) ?_
      refine v_aload_n C (pc' := 440) dL_law_439 rfl rfl rfl ?_
      obtain ⟨y77, hy77, Lt1⟩ := bind_some Lt1
      refine v_callV C (pc' := 443) (rest := []) (c_r_nodes l ht1 _ hy77) mv_L_74 rfl rfl lv0_0 dL_law_440 rfl rfl rfl ⟨Nat.le_of_ble_eq_true rfl, Nat.le_of_ble_eq_true rfl⟩ (Nat.le_of_ble_eq_true rfl) ⟨by simp only [room_1]; omega, by simp only [room_1]; omega⟩ ?_
      refine V.st (st' := [aI y77]) rfl ?_
      refine v_aload_n C (pc' := 444) dL_law_443 rfl rfl rfl ?_
      obtain ⟨y78, hy78, Lt1⟩ := bind_some Lt1
      refine v_callV C (pc' := 447) (rest := [aI y77]) (c_m_nodes l ht1 _ hy78) mv_L_77 rfl rfl lv0_20 dL_law_444 rfl rfl rfl ⟨Nat.le_of_ble_eq_true rfl, Nat.le_of_ble_eq_true rfl⟩ (Nat.le_of_ble_eq_true rfl) ⟨by simp only [room_1]; omega, by simp only [room_1]; omega⟩ ?_
      refine V.st (st' := [aI y78, aI y77]) rfl ?_
      refine v_icmp_eq C (tg := 465) (pc' := 450) dL_law_447 (by decide) rfl (fun q79 => ?_) (fun q79 => ?_)
      · rw [if_pos q79] at Lt1
        refine v_iinc3 C (pc' := 468) dL_law_465 (v := (a3t1 + (5 : Int32))) (by rw [show Int32.ofInt 5 = (5 : Int32) by decide]) (by decide) rfl rfl ?_
        refine v_goto C (pc' := 18) dL_law_468 (by decide) ?_
        cases Lt1
        refine V.widen (ce := 100 + 2 * (a3t1 + (5 : Int32)).toNatClampNeg) (sl := 3000 + 13 * (a3t1 + (5 : Int32)).toNatClampNeg) (by rw [i5 g3 hL]; omega) (by rw [i5 g3 hL]; omega) ?_
        exact kst1 _ rfl (by show (a3t1 + (5 : Int32)).toNatClampNeg ≤ 330; rw [i5 g3 hL]; omega)
      · rw [if_neg q79] at Lt1
        refine v_iconst C (pc' := 451) dL_law_450 (v := (0 : Int32)) (by decide) rfl ?_
        cases Lt1
        have z := kxt1 _ rfl
        rw [← z] at E
        simp only [Sum.elim_inl] at E
        exact absurd (Option.some.inj E) (by decide)
    rw [if_neg q76] at Lt1
    by_cases q80 : ((xs a3t1.toNatClampNeg) &&& (15 : Int32)) = (14 : Int32)
    · rw [if_pos q80] at Lt1
      refine v_tabIn C (pc' := 452) dL_law_32 (by rw [q80]; decide) (by rw [q80]; decide) (off := 420) (by rw [q80]; decide) (by decide) ?_
      refine v_aload_n C (pc' := 453) dL_law_452 rfl rfl rfl ?_
      obtain ⟨y81, hy81, Lt1⟩ := bind_some Lt1
      refine v_callV C (pc' := 456) (rest := []) (c_r_bytes l ht1 _ hy81) mv_L_78 rfl rfl lv0_0 dL_law_453 rfl rfl rfl ⟨Nat.le_of_ble_eq_true rfl, Nat.le_of_ble_eq_true rfl⟩ (Nat.le_of_ble_eq_true rfl) ⟨by simp only [room_1]; omega, by simp only [room_1]; omega⟩ ?_
      refine V.st (st' := [aI y81]) rfl ?_
      refine v_aload_n C (pc' := 457) dL_law_456 rfl rfl rfl ?_
      obtain ⟨y82, hy82, Lt1⟩ := bind_some Lt1
      refine v_callV C (pc' := 460) (rest := [aI y81]) (c_m_bytes l ht1 _ hy82) mv_L_81 rfl rfl lv0_20 dL_law_457 rfl rfl rfl ⟨Nat.le_of_ble_eq_true rfl, Nat.le_of_ble_eq_true rfl⟩ (Nat.le_of_ble_eq_true rfl) ⟨by simp only [room_1]; omega, by simp only [room_1]; omega⟩ ?_
      refine V.st (st' := [aI y82, aI y81]) rfl ?_
      refine v_icmp_eq C (tg := 465) (pc' := 463) dL_law_460 (by decide) rfl (fun q83 => ?_) (fun q83 => ?_)
      · rw [if_pos q83] at Lt1
        refine v_iinc3 C (pc' := 468) dL_law_465 (v := (a3t1 + (5 : Int32))) (by rw [show Int32.ofInt 5 = (5 : Int32) by decide]) (by decide) rfl rfl ?_
        refine v_goto C (pc' := 18) dL_law_468 (by decide) ?_
        cases Lt1
        refine V.widen (ce := 100 + 2 * (a3t1 + (5 : Int32)).toNatClampNeg) (sl := 3000 + 13 * (a3t1 + (5 : Int32)).toNatClampNeg) (by rw [i5 g3 hL]; omega) (by rw [i5 g3 hL]; omega) ?_
        exact kst1 _ rfl (by show (a3t1 + (5 : Int32)).toNatClampNeg ≤ 330; rw [i5 g3 hL]; omega)
      · rw [if_neg q83] at Lt1
        refine v_iconst C (pc' := 464) dL_law_463 (v := (0 : Int32)) (by decide) rfl ?_
        cases Lt1
        have z := kxt1 _ rfl
        rw [← z] at E
        simp only [Sum.elim_inl] at E
        exact absurd (Option.some.inj E) (by decide)
    rw [if_neg q80] at Lt1
    refine v_tabOut C (pc' := 465) dL_law_32 (tab_out (lo := 0) (n := 15) (fun k hk => by rcases (show k = 0 ∨ k = 1 ∨ k = 2 ∨ k = 3 ∨ k = 4 ∨ k = 5 ∨ k = 6 ∨ k = 7 ∨ k = 8 ∨ k = 9 ∨ k = 10 ∨ k = 11 ∨ k = 12 ∨ k = 13 ∨ k = 14 by omega) with rfl | rfl | rfl | rfl | rfl | rfl | rfl | rfl | rfl | rfl | rfl | rfl | rfl | rfl | rfl <;> intro z <;> first | exact q4 (z.trans (by decide)) | exact q16 (z.trans (by decide)) | exact q20 (z.trans (by decide)) | exact q26 (z.trans (by decide)) | exact q34 (z.trans (by decide)) | exact q38 (z.trans (by decide)) | exact q42 (z.trans (by decide)) | exact q48 (z.trans (by decide)) | exact q52 (z.trans (by decide)) | exact q58 (z.trans (by decide)) | exact q62 (z.trans (by decide)) | exact q68 (z.trans (by decide)) | exact q72 (z.trans (by decide)) | exact q76 (z.trans (by decide)) | exact q80 (z.trans (by decide)))) (by decide) ?_
    refine v_iinc3 C (pc' := 468) dL_law_465 (v := (a3t1 + (5 : Int32))) (by rw [show Int32.ofInt 5 = (5 : Int32) by decide]) (by decide) rfl rfl ?_
    refine v_goto C (pc' := 18) dL_law_468 (by decide) ?_
    cases Lt1
    refine V.widen (ce := 100 + 2 * (a3t1 + (5 : Int32)).toNatClampNeg) (sl := 3000 + 13 * (a3t1 + (5 : Int32)).toNatClampNeg) (by rw [i5 g3 hL]; omega) (by rw [i5 g3 hL]; omega) ?_
    exact kst1 _ rfl (by show (a3t1 + (5 : Int32)).toNatClampNeg ≤ 330; rw [i5 g3 hL]; omega)
